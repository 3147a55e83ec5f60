/-! the law's grammar, out of the heaps: codes are numbers (0 .. 5 names, 6 .. 15 two-sided, 16 !, 17 -, 18 + v a number) -/
def sgn (T : Nat → Int32) (n p : Nat) : Int32 := if n ≤ p then -1 else T p
def TapeOk (T : Nat → Int32) (n : Nat) : Prop := n ≤ 120 ∧ ∀ i, i < n → ∃ b, b ≤ 255 ∧ T i = nI b
def isDig (x : Int32) : Bool := decide (¬ x < 48) && decide (¬ 57 < x)
def nmOf (x : Int32) : Nat := if x = 97 then 1 else if x = 104 then 2 else if x = 110 then 4 else if x = 111 then 5 else if x = 115 then 3 else if x = 119 then 0 else 9
def rkOf (x : Int32) : Nat := if x = 37 then 4 else if x = 38 then 1 else if x = 42 then 4 else if x = 43 then 3 else if x = 45 then 3 else if x = 47 then 4 else if x = 60 then 2 else if x = 61 then 2 else if x = 62 then 2 else if x = 124 then 0 else 9
def opc (x : Int32) : Nat := if x = 37 then 15 else if x = 38 then 7 else if x = 42 then 13 else if x = 43 then 11 else if x = 45 then 12 else if x = 47 then 14 else if x = 60 then 8 else if x = 61 then 9 else if x = 62 then 10 else 6
theorem rk_cases (x : Int32) : x = 37 ∨ x = 38 ∨ x = 42 ∨ x = 43 ∨ x = 45 ∨ x = 47 ∨ x = 60 ∨ x = 61 ∨ x = 62 ∨ x = 124 ∨ (rkOf x = 9 ∧ ¬ x = 37 ∧ ¬ x = 38 ∧ ¬ x = 42 ∧ ¬ x = 43 ∧ ¬ x = 45 ∧ ¬ x = 47 ∧ ¬ x = 60 ∧ ¬ x = 61 ∧ ¬ x = 62 ∧ ¬ x = 124) := by
  by_cases h1 : x = 37
  · exact Or.inl h1
  by_cases h2 : x = 38
  · exact Or.inr (Or.inl h2)
  by_cases h3 : x = 42
  · exact Or.inr (Or.inr (Or.inl h3))
  by_cases h4 : x = 43
  · exact Or.inr (Or.inr (Or.inr (Or.inl h4)))
  by_cases h5 : x = 45
  · exact Or.inr (Or.inr (Or.inr (Or.inr (Or.inl h5))))
  by_cases h6 : x = 47
  · exact Or.inr (Or.inr (Or.inr (Or.inr (Or.inr (Or.inl h6)))))
  by_cases h7 : x = 60
  · exact Or.inr (Or.inr (Or.inr (Or.inr (Or.inr (Or.inr (Or.inl h7))))))
  by_cases h8 : x = 61
  · exact Or.inr (Or.inr (Or.inr (Or.inr (Or.inr (Or.inr (Or.inr (Or.inl h8)))))))
  by_cases h9 : x = 62
  · exact Or.inr (Or.inr (Or.inr (Or.inr (Or.inr (Or.inr (Or.inr (Or.inr (Or.inl h9))))))))
  by_cases h10 : x = 124
  · exact Or.inr (Or.inr (Or.inr (Or.inr (Or.inr (Or.inr (Or.inr (Or.inr (Or.inr (Or.inl h10)))))))))
  refine Or.inr (Or.inr (Or.inr (Or.inr (Or.inr (Or.inr (Or.inr (Or.inr (Or.inr (Or.inr ⟨?_, h1, h2, h3, h4, h5, h6, h7, h8, h9, h10⟩)))))))))
  unfold rkOf
  rw [if_neg h1, if_neg h2, if_neg h3, if_neg h4, if_neg h5, if_neg h6, if_neg h7, if_neg h8, if_neg h9, if_neg h10]
abbrev Res : Type := Bool × Nat × List Nat
def dgP (T : Nat → Int32) (n : Nat) : Nat → Nat → Nat → Nat × Nat
  | 0, v, p => (v, p)
  | k + 1, v, p => if isDig (sgn T n p) then dgP T n k (10 * v + ((sgn T n p).toNatClampNeg - 48)) (p + 1) else (v, p)
def lfP (T : Nat → Int32) (n p : Nat) : Option Res := if isDig (sgn T n p) then some (true, (dgP T n 4 0 p).2, [18 + (dgP T n 4 0 p).1]) else if nmOf (sgn T n p) < 6 then some (true, p + 1, [nmOf (sgn T n p)]) else none
def lpP (T : Nat → Int32) (n : Nat) (sub : Nat → Res) (r : Nat) : Nat → Nat → List Nat → Res
  | 0, p, M => (true, p, M)
  | k + 1, p, M => if rkOf (sgn T n p) = r then (if (sub (p + 1)).1 then (if r = 2 then (true, (sub (p + 1)).2.1, M ++ (sub (p + 1)).2.2 ++ [opc (sgn T n p)]) else lpP T n sub r k (sub (p + 1)).2.1 (M ++ (sub (p + 1)).2.2 ++ [opc (sgn T n p)])) else (false, (sub (p + 1)).2.1, [])) else (true, p, M)
def rkP (T : Nat → Int32) (n : Nat) (sub : Nat → Res) (r p : Nat) : Res := if (sub p).1 then lpP T n sub r 120 (sub p).2.1 (sub p).2.2 else (false, (sub p).2.1, [])
def rkN (T : Nat → Int32) (n : Nat) (o : Nat → Res) : Nat → Nat → Res
  | 0 => o
  | j + 1 => rkP T n (rkN T n o j) (4 - j)
def unP (q : Res) (c : Nat) : Res := if q.1 then (true, q.2.1, q.2.2 ++ [c]) else (false, q.2.1, [])
def clP (T : Nat → Int32) (n : Nat) (q : Res) : Res := if q.1 then (if sgn T n q.2.1 = 41 then (true, q.2.1 + 1, q.2.2) else (false, q.2.1, [])) else (false, q.2.1, [])
def opr (T : Nat → Int32) (n : Nat) : Nat → Nat → Res
  | 0, p => (lfP T n p).getD (false, p, [])
  | d + 1, p => (lfP T n p).getD (if sgn T n p = 40 then clP T n (rkN T n (opr T n d) 5 (p + 1)) else if sgn T n p = 33 then unP (opr T n d (p + 1)) 16 else if sgn T n p = 45 then unP (opr T n d (p + 1)) 17 else (false, p, []))
/-! what codes do over a stack -/
def bth (c : Nat) (x y : Int32) : Int32 := if c = 6 then (if x = 0 ∧ y = 0 then 0 else 1) else if c = 7 then (if x = 0 ∨ y = 0 then 0 else 1) else if c = 8 then (if y ≤ x then 0 else 1) else if c = 9 then (if x = y then 1 else 0) else if c = 10 then (if x ≤ y then 0 else 1) else if c = 11 then x + y else if c = 12 then x - y else if c = 13 then x * y else if c = 14 then (if y = 0 then 0 else x / y) else (if y = 0 then 0 else x % y)
def stp (N : Nat → Int32) (c : Nat) (st : List Int32) : Option (List Int32) :=
  if c < 6 then some (N c :: st) else if 18 ≤ c then some (nI (c - 18) :: st) else
  match st with
  | [] => none
  | v :: s => if c = 16 then some ((if v = 0 then 1 else 0) :: s) else if c = 17 then some (-v :: s) else
    match s with
    | [] => none
    | x :: s2 => some (bth c x v :: s2)
def runC (N : Nat → Int32) : List Nat → List Int32 → Option (List Int32)
  | [], st => some st
  | c :: M, st => (stp N c st).bind (runC N M)
theorem runC_app (N : Nat → Int32) : ∀ (M M' : List Nat) (st : List Int32), runC N (M ++ M') st = (runC N M st).bind (runC N M')
  | [], _, _ => rfl
  | c :: M, M', st => by
    show (stp N c st).bind (runC N (M ++ M')) = ((stp N c st).bind (runC N M)).bind (runC N M')
    cases stp N c st with
    | none => rfl
    | some s => exact runC_app N M M' s
def Wf (M : List Nat) : Prop := ∀ N, ∃ v, ∀ st, runC N M st = some (v :: st)
theorem wf_leaf {c : Nat} (h : c < 6 ∨ 18 ≤ c) : Wf [c] := by
  intro N
  by_cases q : c < 6
  · exact ⟨N c, fun st => by show (stp N c st).bind (runC N []) = _; unfold stp; rw [if_pos q]; rfl⟩
  · exact ⟨nI (c - 18), fun st => by show (stp N c st).bind (runC N []) = _; unfold stp; rw [if_neg q, if_pos (by omega)]; rfl⟩
theorem wf_un {M : List Nat} {c : Nat} (h : Wf M) (hc : c = 16 ∨ c = 17) : Wf (M ++ [c]) := by
  intro N
  obtain ⟨v, hv⟩ := h N
  rcases hc with rfl | rfl
  · exact ⟨if v = 0 then 1 else 0, fun st => by rw [runC_app, hv]; rfl⟩
  · exact ⟨-v, fun st => by rw [runC_app, hv]; rfl⟩
theorem wf_bin {M M' : List Nat} {c : Nat} (h : Wf M) (h' : Wf M') (hc : 6 ≤ c ∧ c ≤ 15) : Wf (M ++ M' ++ [c]) := by
  intro N
  obtain ⟨v, hv⟩ := h N
  obtain ⟨w, hw⟩ := h' N
  refine ⟨bth c v w, fun st => ?_⟩
  rw [runC_app, runC_app, hv]
  show ((runC N M' (v :: st)).bind (runC N [c])) = _
  rw [hw]
  show (stp N c (w :: v :: st)).bind (runC N []) = _
  unfold stp
  rw [if_neg (by omega), if_neg (by omega)]
  simp only
  rw [if_neg (by omega), if_neg (by omega)]
  rfl
theorem wf_ne {M : List Nat} (h : Wf M) : M ≠ [] := by
  intro e
  subst e
  obtain ⟨v, hv⟩ := h (fun _ => 0)
  have h1 := hv []
  cases h1
/-- a reader keeps within the tape, and what it reads is a value -/
def GoodP (n : Nat) (P : Nat → Res) : Prop := ∀ p, p ≤ n → p ≤ (P p).2.1 ∧ (P p).2.1 ≤ n ∧ ((P p).1 = true → p < (P p).2.1 ∧ p + (P p).2.2.length ≤ (P p).2.1 ∧ Wf (P p).2.2 ∧ ∀ c, c ∈ (P p).2.2 → c < 18 + 10000)
theorem sgn_m1 {T : Nat → Int32} {n p : Nat} {x : Int32} (h : sgn T n p = x) (hx : x ≠ -1) : p < n ∧ T p = x := by
  unfold sgn at h
  by_cases q : n ≤ p
  · rw [if_pos q] at h; exact absurd h.symm hx
  · rw [if_neg q] at h; exact ⟨by omega, h⟩
theorem rk_in {T : Nat → Int32} {n p r : Nat} (hr : r ≤ 4) (h : rkOf (sgn T n p) = r) : p < n ∧ 6 ≤ opc (sgn T n p) ∧ opc (sgn T n p) ≤ 15 := by
  have hb : 6 ≤ opc (sgn T n p) ∧ opc (sgn T n p) ≤ 15 := by
    unfold opc
    repeat' split
    all_goals decide
  refine ⟨?_, hb⟩
  rcases rk_cases (sgn T n p) with e | e | e | e | e | e | e | e | e | e | ⟨e, _⟩
  · exact (sgn_m1 e (by decide)).1
  · exact (sgn_m1 e (by decide)).1
  · exact (sgn_m1 e (by decide)).1
  · exact (sgn_m1 e (by decide)).1
  · exact (sgn_m1 e (by decide)).1
  · exact (sgn_m1 e (by decide)).1
  · exact (sgn_m1 e (by decide)).1
  · exact (sgn_m1 e (by decide)).1
  · exact (sgn_m1 e (by decide)).1
  · exact (sgn_m1 e (by decide)).1
  · omega
theorem good_lp {T : Nat → Int32} {n : Nat} {sub : Nat → Res} {r : Nat} (hr : r ≤ 4) (hs : GoodP n sub) {p0 : Nat} : ∀ (k p : Nat) (M : List Nat), p0 < p → p ≤ n → p0 + M.length ≤ p → Wf M → (∀ c, c ∈ M → c < 18 + 10000) → p ≤ (lpP T n sub r k p M).2.1 ∧ (lpP T n sub r k p M).2.1 ≤ n ∧ ((lpP T n sub r k p M).1 = true → p0 + (lpP T n sub r k p M).2.2.length ≤ (lpP T n sub r k p M).2.1 ∧ Wf (lpP T n sub r k p M).2.2 ∧ ∀ c, c ∈ (lpP T n sub r k p M).2.2 → c < 18 + 10000)
  | 0, p, M, h0, h1, h2, h3, h4 => ⟨Nat.le_refl _, h1, fun _ => ⟨h2, h3, h4⟩⟩
  | k + 1, p, M, h0, h1, h2, h3, h4 => by
    rw [lpP]
    by_cases c : rkOf (sgn T n p) = r
    · rw [if_pos c]
      obtain ⟨b1, b2, b3⟩ := rk_in hr c
      obtain ⟨s1, s2, s3⟩ := hs (p + 1) (by omega)
      by_cases e : (sub (p + 1)).1 = true
      · rw [if_pos e]
        obtain ⟨t1, t2, t3, t4⟩ := s3 e
        have hl : (M ++ (sub (p + 1)).2.2 ++ [opc (sgn T n p)]).length = M.length + (sub (p + 1)).2.2.length + 1 := by rw [List.length_append, List.length_append]; rfl
        have hw := wf_bin h3 t3 ⟨b2, b3⟩
        have hc : ∀ c, c ∈ M ++ (sub (p + 1)).2.2 ++ [opc (sgn T n p)] → c < 18 + 10000 := by
          intro c hc
          simp only [List.mem_append, List.mem_singleton] at hc
          rcases hc with (hc | hc) | hc
          · exact h4 c hc
          · exact t4 c hc
          · omega
        by_cases e2 : r = 2
        · rw [if_pos e2]
          exact ⟨show p ≤ (sub (p + 1)).2.1 by omega, s2, fun _ => ⟨by show p0 + (M ++ (sub (p + 1)).2.2 ++ [opc (sgn T n p)]).length ≤ (sub (p + 1)).2.1; omega, hw, hc⟩⟩
        · rw [if_neg e2]
          obtain ⟨g1, g2, g3⟩ := good_lp (p0 := p0) hr hs k (sub (p + 1)).2.1 (M ++ (sub (p + 1)).2.2 ++ [opc (sgn T n p)]) (by omega) s2 (by omega) hw hc
          exact ⟨by omega, g2, g3⟩
      · rw [if_neg e]
        exact ⟨show p ≤ (sub (p + 1)).2.1 by omega, s2, fun h => by cases h⟩
    · rw [if_neg c]
      exact ⟨Nat.le_refl _, h1, fun _ => ⟨h2, h3, h4⟩⟩
theorem good_rk {T : Nat → Int32} {n : Nat} {sub : Nat → Res} {r : Nat} (hr : r ≤ 4) (hs : GoodP n sub) : GoodP n (rkP T n sub r) := by
  intro p hp
  obtain ⟨s1, s2, s3⟩ := hs p hp
  unfold rkP
  by_cases e : (sub p).1 = true
  · rw [if_pos e]
    obtain ⟨t1, t2, t3, t4⟩ := s3 e
    obtain ⟨g1, g2, g3⟩ := good_lp (T := T) hr hs (p0 := p) 120 (sub p).2.1 (sub p).2.2 t1 s2 t2 t3 t4
    refine ⟨by omega, g2, fun h => ?_⟩
    obtain ⟨h1, h2, h3⟩ := g3 h
    exact ⟨by omega, h1, h2, h3⟩
  · rw [if_neg e]
    exact ⟨s1, s2, fun h => by cases h⟩
theorem good_rkN {T : Nat → Int32} {n : Nat} {o : Nat → Res} (ho : GoodP n o) : ∀ j, GoodP n (rkN T n o j)
  | 0 => ho
  | j + 1 => good_rk (by omega) (good_rkN ho j)
theorem dig_in {T : Nat → Int32} {n p : Nat} (h : isDig (sgn T n p) = true) : p < n := by
  rcases Nat.lt_or_ge p n with q | q
  · exact q
  · have e : sgn T n p = -1 := if_pos q
    rw [e] at h
    exact absurd h (by decide)
theorem dig_val {x : Int32} (h : isDig x = true) : ∃ b, 48 ≤ b ∧ b ≤ 57 ∧ x = nI b := by
  unfold isDig at h
  simp only [Bool.and_eq_true, decide_eq_true_eq] at h
  rcases i32_split x with ⟨b, hb, rfl⟩ | hx
  · refine ⟨b, ?_, ?_, rfl⟩
    · have := h.1
      rw [show (48 : Int32) = nI 48 from rfl, nI_ltI hb (by decide)] at this
      omega
    · have := h.2
      rw [show (57 : Int32) = nI 57 from rfl, nI_ltI (by decide) hb] at this
      omega
  · exact absurd (neg_lt hx (n := 48) (by decide)) h.1
theorem good_dg {T : Nat → Int32} {n : Nat} : ∀ (k v p m : Nat), p ≤ n → v < 10 ^ m → p ≤ (dgP T n k v p).2 ∧ (dgP T n k v p).2 ≤ n ∧ (dgP T n k v p).1 < 10 ^ (m + k)
  | 0, v, p, m, h1, h2 => ⟨Nat.le_refl _, h1, h2⟩
  | k + 1, v, p, m, h1, h2 => by
    rw [dgP]
    by_cases e : isDig (sgn T n p) = true
    · rw [if_pos e]
      have hp := dig_in e
      obtain ⟨b, b1, b2, b3⟩ := dig_val e
      have hv : 10 * v + ((sgn T n p).toNatClampNeg - 48) < 10 ^ (m + 1) := by
        rw [b3, nI_clamp (by omega), Nat.pow_succ]; omega
      obtain ⟨g1, g2, g3⟩ := good_dg (T := T) (n := n) k (10 * v + ((sgn T n p).toNatClampNeg - 48)) (p + 1) (m + 1) (by omega) hv
      rw [show m + 1 + k = m + (k + 1) by omega] at g3
      exact ⟨by omega, g2, g3⟩
    · rw [if_neg e]
      exact ⟨Nat.le_refl _, h1, Nat.lt_of_lt_of_le h2 (Nat.pow_le_pow_right (by decide) (by omega))⟩
theorem nm_in {T : Nat → Int32} {n p : Nat} (h : nmOf (sgn T n p) < 6) : p < n := by
  rcases Nat.lt_or_ge p n with q | q
  · exact q
  · have e : sgn T n p = -1 := if_pos q
    rw [e] at h
    exact absurd h (by decide)
theorem good_lf {T : Nat → Int32} {n p : Nat} {q : Res} (hp : p ≤ n) (h : lfP T n p = some q) : p < q.2.1 ∧ q.2.1 ≤ n ∧ q.1 = true ∧ q.2.2.length = 1 ∧ Wf q.2.2 ∧ ∀ c, c ∈ q.2.2 → c < 18 + 10000 := by
  unfold lfP at h
  by_cases e : isDig (sgn T n p) = true
  · rw [if_pos e] at h
    cases h
    obtain ⟨g1, g2, g3⟩ := good_dg (T := T) (n := n) 4 0 p 0 hp (by decide)
    have hlt : p < (dgP T n 4 0 p).2 := by
      rw [dgP, if_pos e]
      have hpn := dig_in e
      obtain ⟨b, b1, b2, b3⟩ := dig_val e
      have := (good_dg (T := T) (n := n) 3 (10 * 0 + ((sgn T n p).toNatClampNeg - 48)) (p + 1) 1 (by omega) (by rw [b3, nI_clamp (by omega)]; omega)).1
      omega
    refine ⟨hlt, g2, rfl, rfl, wf_leaf (Or.inr (Nat.le_add_right _ _)), fun c hc => ?_⟩
    have := List.mem_singleton.mp hc
    have h4 : 10 ^ (0 + 4) = 10000 := by decide
    omega
  · rw [if_neg e] at h
    by_cases e2 : nmOf (sgn T n p) < 6
    · rw [if_pos e2] at h
      cases h
      refine ⟨Nat.lt_succ_self p, nm_in e2, rfl, rfl, wf_leaf (Or.inl e2), fun c hc => ?_⟩
      have := List.mem_singleton.mp hc
      omega
    · rw [if_neg e2] at h; cases h
theorem good_opr {T : Nat → Int32} {n : Nat} : ∀ d, GoodP n (opr T n d)
  | 0 => fun p hp => by
    rw [opr]
    cases e : lfP T n p with
    | none => exact ⟨Nat.le_refl _, hp, fun h => by cases h⟩
    | some q =>
      obtain ⟨g1, g2, g3, g4, g5, g6⟩ := good_lf hp e
      exact ⟨Nat.le_of_lt g1, g2, fun _ => ⟨g1, by show p + q.2.2.length ≤ q.2.1; omega, g5, g6⟩⟩
  | d + 1 => fun p hp => by
    rw [opr]
    cases e : lfP T n p with
    | some q =>
      obtain ⟨g1, g2, g3, g4, g5, g6⟩ := good_lf hp e
      exact ⟨Nat.le_of_lt g1, g2, fun _ => ⟨g1, by show p + q.2.2.length ≤ q.2.1; omega, g5, g6⟩⟩
    | none =>
      show p ≤ (if sgn T n p = 40 then clP T n (rkN T n (opr T n d) 5 (p + 1)) else if sgn T n p = 33 then unP (opr T n d (p + 1)) 16 else if sgn T n p = 45 then unP (opr T n d (p + 1)) 17 else (false, p, [])).2.1 ∧ (if sgn T n p = 40 then clP T n (rkN T n (opr T n d) 5 (p + 1)) else if sgn T n p = 33 then unP (opr T n d (p + 1)) 16 else if sgn T n p = 45 then unP (opr T n d (p + 1)) 17 else (false, p, [])).2.1 ≤ n ∧ ((if sgn T n p = 40 then clP T n (rkN T n (opr T n d) 5 (p + 1)) else if sgn T n p = 33 then unP (opr T n d (p + 1)) 16 else if sgn T n p = 45 then unP (opr T n d (p + 1)) 17 else (false, p, [])).1 = true → _)
      have un : ∀ (q : Res) (c : Nat), p + 1 ≤ n → (c = 16 ∨ c = 17) → (p + 1 ≤ q.2.1 ∧ q.2.1 ≤ n ∧ (q.1 = true → p + 1 < q.2.1 ∧ p + 1 + q.2.2.length ≤ q.2.1 ∧ Wf q.2.2 ∧ ∀ c, c ∈ q.2.2 → c < 18 + 10000)) → p ≤ (unP q c).2.1 ∧ (unP q c).2.1 ≤ n ∧ ((unP q c).1 = true → p < (unP q c).2.1 ∧ p + (unP q c).2.2.length ≤ (unP q c).2.1 ∧ Wf (unP q c).2.2 ∧ ∀ x, x ∈ (unP q c).2.2 → x < 18 + 10000) := by
        intro q c hp1 hc ⟨g1, g2, g3⟩
        unfold unP
        by_cases e : q.1 = true
        · rw [if_pos e]
          obtain ⟨t1, t2, t3, t4⟩ := g3 e
          refine ⟨show p ≤ q.2.1 by omega, g2, fun _ => ⟨show p < q.2.1 by omega, ?_, wf_un t3 hc, fun x hx => ?_⟩⟩
          · show p + (q.2.2 ++ [c]).length ≤ q.2.1
            rw [List.length_append]; simp; omega
          · simp only [List.mem_append, List.mem_singleton] at hx
            rcases hx with hx | hx
            · exact t4 x hx
            · omega
        · rw [if_neg e]
          exact ⟨show p ≤ q.2.1 by omega, g2, fun h => by cases h⟩
      by_cases e1 : sgn T n p = 40
      · rw [if_pos e1]
        have hpn := (sgn_m1 e1 (by decide)).1
        obtain ⟨g1, g2, g3⟩ := good_rkN (T := T) (n := n) (good_opr (T := T) (n := n) d) 5 (p + 1) (by omega)
        unfold clP
        by_cases e : (rkN T n (opr T n d) 5 (p + 1)).1 = true
        · rw [if_pos e]
          obtain ⟨t1, t2, t3, t4⟩ := g3 e
          by_cases e3 : sgn T n (rkN T n (opr T n d) 5 (p + 1)).2.1 = 41
          · rw [if_pos e3]
            have hq := (sgn_m1 e3 (by decide)).1
            exact ⟨show p ≤ (rkN T n (opr T n d) 5 (p + 1)).2.1 + 1 by omega, show (rkN T n (opr T n d) 5 (p + 1)).2.1 + 1 ≤ n by omega, fun _ => ⟨show p < (rkN T n (opr T n d) 5 (p + 1)).2.1 + 1 by omega, show p + (rkN T n (opr T n d) 5 (p + 1)).2.2.length ≤ (rkN T n (opr T n d) 5 (p + 1)).2.1 + 1 by omega, t3, t4⟩⟩
          · rw [if_neg e3]
            exact ⟨show p ≤ (rkN T n (opr T n d) 5 (p + 1)).2.1 by omega, g2, fun h => by cases h⟩
        · rw [if_neg e]
          exact ⟨show p ≤ (rkN T n (opr T n d) 5 (p + 1)).2.1 by omega, g2, fun h => by cases h⟩
      · rw [if_neg e1]
        by_cases e2 : sgn T n p = 33
        · rw [if_pos e2]
          have hpn := (sgn_m1 e2 (by decide)).1
          exact un _ _ (by omega) (Or.inl rfl) (good_opr d (p + 1) (by omega))
        · rw [if_neg e2]
          by_cases e3 : sgn T n p = 45
          · rw [if_pos e3]
            have hpn := (sgn_m1 e3 (by decide)).1
            exact un _ _ (by omega) (Or.inr rfl) (good_opr d (p + 1) (by omega))
          · rw [if_neg e3]
            exact ⟨Nat.le_refl _, hp, fun h => by cases h⟩
/-- a whole value: E -/
def eP (T : Nat → Int32) (n p : Nat) : Res := rkN T n (opr T n 6) 5 p
theorem good_e {T : Nat → Int32} {n : Nat} : GoodP n (eP T n) := good_rkN (good_opr 6) 5
