/-! what a line is worth: the class -/
def Stk (r : Nat) (h : Hp) : List Int32 → Prop
  | [] => True
  | v :: s => h.1 r s.length = v ∧ Stk r h s
theorem stk_st {r j : Nat} {h : Hp} {v : Int32} : ∀ (s : List Int32), s.length ≤ j → Stk r h s → Stk r (stI h r j v) s
  | [], _, _ => True.intro
  | x :: s, hj, H => by
    have hj' : s.length < j := hj
    exact ⟨by rw [stI_at, if_pos rfl, if_neg (by omega)]; exact H.1, stk_st s (by omega) H.2⟩
theorem stk_push {r : Nat} {h : Hp} {s : List Int32} {v : Int32} (H : Stk r h s) : Stk r (stI h r s.length v) (v :: s) := ⟨by rw [stI_at, if_pos rfl, if_pos rfl], stk_st s (Nat.le_refl _) H⟩
theorem tx_bin : ∀ c, c < 16 → 6 ≤ c → tX c < 0 ∧ tX c ≠ -59 ∧ tX c ≠ -33 ∧ tX c ≠ -126 ∧ tX c ≠ -63 := by decide
theorem tx_nm : ∀ c, c < 6 → tX c = nI (10000 + c) := by decide
theorem tx_num {c : Nat} (h : 18 ≤ c) (h2 : c < 10018) : tX c = nI (c - 18) := by
  unfold tX
  rw [if_neg (by omega), if_neg (by omega), if_neg (by omega), if_neg (by omega), if_neg (by omega), if_neg (by omega), if_neg (by omega), if_neg (by omega), if_neg (by omega), if_neg (by omega), if_neg (by omega), if_neg (by omega), if_neg (by omega), if_pos (by omega)]
theorem joined_x (x y : Int32) : ∀ c, 6 ≤ c → c ≤ 15 → f_X4_joined x (-tX c) y = some (bth c x y) := by
  intro c h1 h2
  have hc : c = 6 ∨ c = 7 ∨ c = 8 ∨ c = 9 ∨ c = 10 ∨ c = 11 ∨ c = 12 ∨ c = 13 ∨ c = 14 ∨ c = 15 := by omega
  rcases hc with rfl | rfl | rfl | rfl | rfl | rfl | rfl | rfl | rfl | rfl
  · rw [show -tX 6 = 124 by decide]; unfold f_X4_joined bth; by_cases hx : x = 0 <;> by_cases hy : y = 0 <;> simp [hx, hy]
  · rw [show -tX 7 = 38 by decide]; unfold f_X4_joined bth; by_cases hx : x = 0 <;> by_cases hy : y = 0 <;> simp [hx, hy]
  · rw [show -tX 8 = 60 by decide]; unfold f_X4_joined bth; by_cases hx : y ≤ x <;> simp [hx]
  · rw [show -tX 9 = 61 by decide]; unfold f_X4_joined bth; by_cases hx : x = y <;> simp [hx]
  · rw [show -tX 10 = 62 by decide]; unfold f_X4_joined bth; by_cases hx : x ≤ y <;> simp [hx]
  · rw [show -tX 11 = 43 by decide]; unfold f_X4_joined bth; simp
  · rw [show -tX 12 = 45 by decide]; unfold f_X4_joined bth; simp
  · rw [show -tX 13 = 42 by decide]; unfold f_X4_joined bth; simp
  · rw [show -tX 14 = 47 by decide]; unfold f_X4_joined bth dvI; by_cases hy : y = 0 <;> simp [hy]
  · rw [show -tX 15 = 37 by decide]; unfold f_X4_joined bth rmI; by_cases hy : y = 0 <;> simp [hy]
theorem both_m (x y : Int32) : ∀ c, 6 ≤ c → c ≤ 15 → f_X8_both (nI c) x y = some (bth c x y) := by
  intro c h1 h2
  have hc : c = 6 ∨ c = 7 ∨ c = 8 ∨ c = 9 ∨ c = 10 ∨ c = 11 ∨ c = 12 ∨ c = 13 ∨ c = 14 ∨ c = 15 := by omega
  rcases hc with rfl | rfl | rfl | rfl | rfl | rfl | rfl | rfl | rfl | rfl
  · rw [show nI 6 = 6 from rfl]; unfold f_X8_both bth; by_cases hx : x = 0 <;> by_cases hy : y = 0 <;> simp [hx, hy]
  · rw [show nI 7 = 7 from rfl]; unfold f_X8_both bth; by_cases hx : x = 0 <;> by_cases hy : y = 0 <;> simp [hx, hy]
  · rw [show nI 8 = 8 from rfl]; unfold f_X8_both bth; by_cases hx : y ≤ x <;> simp [hx]
  · rw [show nI 9 = 9 from rfl]; unfold f_X8_both bth; by_cases hx : x = y <;> simp [hx]
  · rw [show nI 10 = 10 from rfl]; unfold f_X8_both bth; by_cases hx : x ≤ y <;> simp [hx]
  · rw [show nI 11 = 11 from rfl]; unfold f_X8_both bth; simp
  · rw [show nI 12 = 12 from rfl]; unfold f_X8_both bth; simp
  · rw [show nI 13 = 13 from rfl]; unfold f_X8_both bth; simp
  · rw [show nI 14 = 14 from rfl]; unfold f_X8_both bth dvI; by_cases hy : y = 0 <;> simp [hy]
  · rw [show nI 15 = 15 from rfl]; unfold f_X8_both bth rmI; by_cases hy : y = 0 <;> simp [hy]
theorem stp_nm (N : Nat → Int32) {c : Nat} (h : c < 6) (st : List Int32) : stp N c st = some (N c :: st) := by
  unfold stp; rw [if_pos h]
theorem stp_num (N : Nat → Int32) {c : Nat} (h : 18 ≤ c) (st : List Int32) : stp N c st = some (nI (c - 18) :: st) := by
  unfold stp; rw [if_neg (by omega), if_pos h]
theorem stp_nil (N : Nat → Int32) {c : Nat} (h : ¬ c < 6) (h2 : ¬ 18 ≤ c) : stp N c [] = none := by
  unfold stp; rw [if_neg h, if_neg h2]
theorem stp_bin (N : Nat → Int32) {c : Nat} (h : 6 ≤ c) (h2 : c ≤ 15) (v x : Int32) (s : List Int32) : stp N c (v :: x :: s) = some (bth c x v :: s) := by
  unfold stp; rw [if_neg (by omega), if_neg (by omega)]; simp only; rw [if_neg (by omega), if_neg (by omega)]
theorem stp_bin1 (N : Nat → Int32) {c : Nat} (h : 6 ≤ c) (h2 : c ≤ 15) (v : Int32) : stp N c [v] = none := by
  unfold stp; rw [if_neg (by omega), if_neg (by omega)]; simp only; rw [if_neg (by omega), if_neg (by omega)]
theorem stp_not (N : Nat → Int32) (v : Int32) (s : List Int32) : stp N 16 (v :: s) = some ((if v = 0 then 1 else 0) :: s) := rfl
theorem stp_neg (N : Nat → Int32) (v : Int32) (s : List Int32) : stp N 17 (v :: s) = some (-v :: s) := rfl
def bSk (b : Bool) : Int32 := if b then 1 else 0
def OkX (c : Nat) : Prop := c < 10018 ∨ c = 20000 ∨ c = 20001
def PoX (N : Nat → Int32) (C : List Nat) (V : Int32) (h : Hp) (k : Nat) (s : Int32 × Int32 × Int32 × Hp) : Prop := s.2.2.1 = nI k ∧ ∃ st sk, s.1 = nI st.length ∧ s.2.1 = bSk sk ∧ st.length ≤ k ∧ evX N (C.drop k) sk st = some V ∧ Stk 12 s.2.2.2 st ∧ Kp [12] h s.2.2.2
theorem evX_false (N : Nat → Int32) (c : Nat) (R : List Nat) (st : List Int32) : evX N (c :: R) false st = (if c = 20001 then (match st with | [] => none | v :: _ => some v) else if c = 20000 then (match st with | [] => none | v :: s => evX N R (decide (v = 0)) s) else (stp N c st).bind (evX N R false)) := rfl
theorem workout_x {N : Nat → Int32} {C : List Nat} {V : Int32} {h : Hp} (q : LR h) (hl : C.length ≤ 121) (hpos : 0 < C.length) (hc : ∀ c, c ∈ C → OkX c) (hv : evX N C false [] = some V) (h3 : h.1 7 3 = nI C.length) (hR : ∀ i (hi : i < C.length), h.1 (h.2.2 7 2) i = tX C[i]) (hN : ∀ i, i < 6 → h.1 11 i = N i) : Ev (f_X4_worth h) fun t => t.1 = hld V := by
  unfold f_X4_worth
  rw [h3, if_neg (by rw [nl0, nI_eq (by omega) (by decide)]; omega)]
  refine ev_call (P := fun r : (Int32 × Int32 × Int32 × Hp) ⊕ (Int32 × Hp) => (∃ a, r = .inl a ∧ V = 0) ∨ (∃ t, r = .inr t ∧ t.1 = hld V)) ?_ (fun r hr => ?_)
  · refine ev_for (k := 0) (PoX N C V h) C.length (fun k s hk hs => ?_) ⟨rfl, [], false, rfl, rfl, by decide, hv, True.intro, Kp.refl q⟩ (by omega) (by rw [FUe]; omega)
    obtain ⟨top, skp, i, g⟩ := s
    obtain ⟨p1, st, sk, p2, p3, p4, p5, p6, p7⟩ := hs
    simp only at p1 p2 p3 p6 p7
    subst p1 p2 p3
    have g7 : g.1 7 3 = nI C.length := by rw [p7.i 7 (by decide)]; exact h3
    have gr : g.2.2 7 2 = h.2.2 7 2 := by rw [p7.r 7 (by decide)]
    unfold b_X4_worth_44
    simp only
    rw [g7]
    by_cases e : C.length ≤ k
    · rw [if_pos (nI_le e (by omega))]
      rw [List.drop_of_length_le e] at p5
      have hV : V = 0 := by
        have z : evX N [] sk st = some 0 := by cases sk <;> rfl
        rw [z] at p5
        cases p5; rfl
      exact ev_some (Or.inl ⟨_, rfl, hV⟩)
    rw [if_neg (by rw [nI_leI (by omega) (by omega)]; exact e)]
    have hk2 : k < C.length := by omega
    have hgk : g.1 (g.2.2 7 2) k = tX C[k] := by
      rw [gr, p7.i (h.2.2 7 2) (by rcases q.1 with e | e <;> rw [e] <;> decide)]
      exact hR k hk2
    have hsz : SI (g.2.2 7 2) = 121 := d_sz p7.1.1
    rw [rdI_n (by omega) (by omega), hgk]
    rw [List.drop_eq_getElem_cons hk2] at p5
    have hck := hc C[k] (List.getElem_mem hk2)
    generalize C[k] = c at p5 hck
    simp only [Option.bind_some]
    have ek : nI k + 1 = nI (k + 1) := by rw [nl1, nI_add]
    rw [ek]
    cases sk with
    | true =>
      rw [if_neg (show ¬ bSk true = 0 by decide)]
      have p5' : evX N (C.drop (k + 1)) (decide (c ≠ 20001)) st = some V := p5
      have e59 : tX c = -59 ↔ c = 20001 := by
        rcases hck with hck | rfl | rfl
        · refine ⟨fun h => ?_, fun h => by omega⟩
          exfalso
          by_cases c6 : c < 6
          · rw [tx_nm c c6] at h
            have z := nI_lt0 (n := 10000 + c) (by omega)
            rw [h] at z
            exact absurd (show (-59 : Int32) < nI 0 by decide) (by rw [z]; exact id)
          · by_cases c18 : 18 ≤ c
            · rw [tx_num c18 hck] at h
              have z := nI_lt0 (n := c - 18) (by omega)
              rw [h] at z
              exact absurd (show (-59 : Int32) < nI 0 by decide) (by rw [z]; exact id)
            · by_cases c16 : c < 16
              · exact (tx_bin c c16 (by omega)).2.1 h
              · have : c = 16 ∨ c = 17 := by omega
                rcases this with rfl | rfl
                · exact absurd h (by decide)
                · exact absurd h (by decide)
        · exact ⟨fun h => absurd h (by decide), fun h => by omega⟩
        · exact ⟨fun _ => rfl, fun _ => by decide⟩
      by_cases e2 : c = 20001
      · rw [if_pos (e59.mpr e2)]
        rw [show decide (c ≠ 20001) = false from decide_eq_false (fun h => h e2)] at p5'
        exact ev_some ⟨hk2, rfl, st, false, rfl, rfl, by omega, p5', p6, p7⟩
      · rw [if_neg (fun h => e2 (e59.mp h))]
        rw [show decide (c ≠ 20001) = true from decide_eq_true e2] at p5'
        exact ev_some ⟨hk2, rfl, st, true, rfl, rfl, by omega, p5', p6, p7⟩
    | false =>
      rw [if_pos (show bSk false = 0 by decide)]
      have p5' := p5
      rw [evX_false] at p5'
      -- what pushes
      have push : ∀ x : Int32, ¬ tX c < 0 → stp N c st = some (x :: st) → ¬ c = 20001 → ¬ c = 20000 → ((if tX c < 10000 then (wrI g 12 (nI st.length) (tX c)) else (rdI g 11 (tX c - 10000)).bind fun v25 => wrI g 12 (nI st.length) v25) = some (stI g 12 st.length x)) → Ev (lnI 12 |>.bind fun v21 => if nI st.length < v21 then (if tX c < 10000 then (wrI g 12 (nI st.length) (tX c)).bind fun h24 => some (.inl (nI st.length + 1, bSk false, nI (k + 1), h24)) else (rdI g 11 (tX c - 10000)).bind fun v25 => (wrI g 12 (nI st.length) v25).bind fun h26 => some (.inl (nI st.length + 1, bSk false, nI (k + 1), h26))) else some (.inr (.inr (0, g)))) (Sum.elim (fun t => k < C.length ∧ PoX N C V h (k + 1) t) fun r : (Int32 × Int32 × Int32 × Hp) ⊕ (Int32 × Hp) => (∃ a, r = .inl a ∧ V = 0) ∨ (∃ t, r = .inr t ∧ t.1 = hld V)) := by
        intro x _ hx n1 n2 hw
        rw [if_neg n1, if_neg n2, hx] at p5'
        rw [show lnI 12 = some (nI 121) from rfl]
        simp only [Option.bind_some]
        rw [if_pos (by rw [nI_ltI (by omega) (by decide)]; omega)]
        have fin : Ev (some (.inl (nI st.length + 1, bSk false, nI (k + 1), stI g 12 st.length x))) (Sum.elim (fun t => k < C.length ∧ PoX N C V h (k + 1) t) fun r : (Int32 × Int32 × Int32 × Hp) ⊕ (Int32 × Hp) => (∃ a, r = .inl a ∧ V = 0) ∨ (∃ t, r = .inr t ∧ t.1 = hld V)) := ev_some ⟨hk2, rfl, x :: st, false, by rw [nl1, nI_add]; rfl, rfl, Nat.succ_le_succ p4, p5', stk_push p6, p7.st (by decide)⟩
        by_cases e1 : tX c < 10000
        · rw [if_pos e1] at hw ⊢
          rw [hw]
          exact fin
        · rw [if_neg e1] at hw ⊢
          obtain ⟨v25, w1, w2⟩ := Option.bind_eq_some_iff.mp hw
          rw [w1]
          simp only [Option.bind_some]
          rw [w2]
          exact fin
      have hst : st.length < 121 := by omega
      by_cases c6 : c < 6
      · have hx := tx_nm c c6
        have n0 : ¬ tX c < 0 := by rw [hx]; intro h; rw [nl0, nI_ltI (by omega) (by decide)] at h; omega
        rw [if_neg n0]
        refine push (N c) n0 (stp_nm N c6 st) (by omega) (by omega) ?_
        rw [hx, if_neg (by rw [show (10000 : Int32) = nI 10000 from rfl, nI_ltI (by omega) (by decide)]; omega), show (10000 : Int32) = nI 10000 from rfl, nI_sub (by omega), show 10000 + c - 10000 = c by omega, rd_11 c6]
        simp only [Option.bind_some]
        rw [p7.i 11 (by decide), hN c c6, wr_12 hst]
      by_cases c18 : 18 ≤ c ∧ c < 10018
      · have hx := tx_num c18.1 c18.2
        have n0 : ¬ tX c < 0 := by rw [hx]; intro h; rw [nl0, nI_ltI (by omega) (by decide)] at h; omega
        rw [if_neg n0]
        refine push (nI (c - 18)) n0 (stp_num N c18.1 st) (by omega) (by omega) ?_
        rw [hx, if_pos (by rw [show (10000 : Int32) = nI 10000 from rfl, nI_ltI (by omega) (by decide)]; omega), wr_12 hst]
      -- what takes from the stack
      cases st with
      | nil =>
        exfalso
        by_cases e1 : c = 20001
        · rw [if_pos e1] at p5'; cases p5'
        · rw [if_neg e1] at p5'
          by_cases e2 : c = 20000
          · rw [if_pos e2] at p5'; cases p5'
          · rw [if_neg e2] at p5'
            rcases hck with hck | hck | hck
            · rw [stp_nil N c6 (by omega)] at p5'; cases p5'
            · exact e2 hck
            · exact e1 hck
      | cons v s =>
        obtain ⟨k1, k2⟩ := p6
        have hs : s.length < 121 := Nat.lt_of_succ_lt hst
        have tneg : tX c < 0 := by
          rcases hck with hck | rfl | rfl
          · by_cases c16 : c < 16
            · exact (tx_bin c c16 (by omega)).1
            · have : c = 16 ∨ c = 17 := by omega
              rcases this with rfl | rfl <;> decide
          · decide
          · decide
        rw [if_pos tneg]
        have etop : nI (v :: s).length - 1 = nI s.length := by rw [nl1, nI_sub (show 1 ≤ (v :: s).length from Nat.succ_le_succ (Nat.zero_le _))]; rfl
        rw [if_pos (show (1 : Int32) ≤ nI (v :: s).length by rw [nl1]; exact nI_le (Nat.succ_le_succ (Nat.zero_le _)) (by omega)), etop, rd_12 hs, k1]
        simp only [Option.bind_some]
        have elen : (v :: s).length = s.length + 1 := rfl
        by_cases e1 : c = 20001
        · subst e1
          have hV : v = V := by cases p5'; rfl
          rw [if_pos (by decide), held_x]
          exact ev_some (Or.inr ⟨_, rfl, by rw [hV]⟩)
        rw [if_neg e1] at p5'
        by_cases e2 : c = 20000
        · subst e2
          have p6' : evX N (C.drop (k + 1)) (decide (v = 0)) s = some V := p5'
          rw [if_neg (by decide), if_neg (by decide), if_neg (by decide), if_pos (by decide)]
          by_cases ev : v = 0
          · rw [if_pos ev]
            rw [show decide (v = 0) = true from decide_eq_true ev] at p6'
            exact ev_some ⟨hk2, rfl, s, true, rfl, rfl, by omega, p6', k2, p7⟩
          · rw [if_neg ev]
            rw [show decide (v = 0) = false from decide_eq_false ev] at p6'
            exact ev_some ⟨hk2, rfl, s, false, rfl, rfl, by omega, p6', k2, p7⟩
        rw [if_neg e2] at p5'
        by_cases e16 : c = 16
        · subst e16
          rw [stp_not] at p5'
          rw [if_neg (by decide), if_pos (by decide)]
          by_cases ev : v = 0
          · rw [if_pos ev] at p5'
            rw [if_pos ev, wr_12 hs]
            exact ev_some ⟨hk2, rfl, 1 :: s, false, rfl, rfl, by rw [elen] at p4; exact Nat.le_succ_of_le p4, p5', stk_push k2, p7.st (by decide)⟩
          · rw [if_neg ev] at p5'
            rw [if_neg ev, wr_12 hs]
            exact ev_some ⟨hk2, rfl, 0 :: s, false, rfl, rfl, by rw [elen] at p4; exact Nat.le_succ_of_le p4, p5', stk_push k2, p7.st (by decide)⟩
        by_cases e17 : c = 17
        · subst e17
          rw [stp_neg] at p5'
          rw [if_neg (by decide), if_neg (by decide), if_pos (by decide), wr_12 hs]
          exact ev_some ⟨hk2, rfl, -v :: s, false, rfl, rfl, by rw [elen] at p4; exact Nat.le_succ_of_le p4, p5', stk_push k2, p7.st (by decide)⟩
        have hb : 6 ≤ c ∧ c ≤ 15 := by unfold OkX at hck; omega
        obtain ⟨_, b1, b2, b3, b4⟩ := tx_bin c (by omega) hb.1
        rw [if_neg b1, if_neg b2, if_neg b3, if_neg b4]
        cases s with
        | nil => rw [stp_bin1 N hb.1 hb.2] at p5'; cases p5'
        | cons x s2 =>
          obtain ⟨k3, k4⟩ := k2
          rw [stp_bin N hb.1 hb.2] at p5'
          have etop2 : nI (x :: s2).length - 1 = nI s2.length := by rw [nl1, nI_sub (show 1 ≤ (x :: s2).length from Nat.succ_le_succ (Nat.zero_le _))]; rfl
          have hs2 : s2.length < 121 := Nat.lt_of_succ_lt hs
          rw [if_pos (show (1 : Int32) ≤ nI (x :: s2).length by rw [nl1]; exact nI_le (Nat.succ_le_succ (Nat.zero_le _)) (by omega)), etop2, rd_12 hs2, k3]
          simp only [Option.bind_some]
          rw [joined_x x v c hb.1 hb.2]
          simp only [Option.bind_some]
          rw [wr_12 hs2]
          have p4' : s2.length + 1 + 1 ≤ k := p4
          exact ev_some ⟨hk2, rfl, bth c x v :: s2, false, rfl, rfl, by show s2.length + 1 ≤ k + 1; omega, p5', stk_push k4, p7.st (by decide)⟩
  · rcases hr with ⟨a, e, hV⟩ | ⟨t, e, ht⟩
    · subst e
      rw [hV]
      exact ev_some (show (0 : Int32) = hld 0 by decide)
    · subst e
      exact ev_some ht
