/-! lines of a law: an ask (none: []) and what it says -/
abbrev Ln : Type := List Nat × List Nat
def lnP (T : Nat → Int32) (n p : Nat) : Bool × Nat × Ln := if (eP T n p).1 then (if sgn T n (eP T n p).2.1 = 63 then (if (eP T n ((eP T n p).2.1 + 1)).1 then (true, (eP T n ((eP T n p).2.1 + 1)).2.1, (eP T n p).2.2, (eP T n ((eP T n p).2.1 + 1)).2.2) else (false, (eP T n ((eP T n p).2.1 + 1)).2.1, [], [])) else (true, (eP T n p).2.1, [], (eP T n p).2.2)) else (false, (eP T n p).2.1, [], [])
def cM (l : Ln) : List Nat := l.1 ++ l.2
def cX0 (l : Ln) : List Nat := if l.1 = [] then l.2 else l.1 ++ 20000 :: l.2
def cX (l : Ln) : List Nat := cX0 l ++ [20001]
def LnOk (l : Ln) : Prop := (l.1 = [] ∨ Wf l.1 ∧ ∀ c, c ∈ l.1 → c < 10018) ∧ Wf l.2 ∧ ∀ c, c ∈ l.2 → c < 10018
theorem good_ln {T : Nat → Int32} {n p : Nat} (hp : p ≤ n) : (lnP T n p).2.1 ≤ n ∧ ((lnP T n p).1 = true → p < (lnP T n p).2.1 ∧ p + (cX0 (lnP T n p).2.2).length ≤ (lnP T n p).2.1 ∧ p + (cM (lnP T n p).2.2).length ≤ (lnP T n p).2.1 ∧ LnOk (lnP T n p).2.2) := by
  obtain ⟨a1, a2, a3⟩ := good_e (T := T) p hp
  unfold lnP
  by_cases e : (eP T n p).1 = true
  · obtain ⟨b1, b2, b3, b4⟩ := a3 e
    rw [if_pos e]
    by_cases e2 : sgn T n (eP T n p).2.1 = 63
    · have hin := (sgn_m1 e2 (by decide)).1
      obtain ⟨c1, c2, c3⟩ := good_e (T := T) (n := n) ((eP T n p).2.1 + 1) (by omega)
      rw [if_pos e2]
      by_cases e3 : (eP T n ((eP T n p).2.1 + 1)).1 = true
      · obtain ⟨d1, d2, d3, d4⟩ := c3 e3
        rw [if_pos e3]
        refine ⟨c2, fun _ => ⟨by show p < (eP T n ((eP T n p).2.1 + 1)).2.1; omega, ?_, ?_, Or.inr ⟨b3, b4⟩, d3, d4⟩⟩
        · show p + (cX0 ((eP T n p).2.2, (eP T n ((eP T n p).2.1 + 1)).2.2)).length ≤ (eP T n ((eP T n p).2.1 + 1)).2.1
          unfold cX0
          rw [if_neg (wf_ne b3), List.length_append, List.length_cons]
          simp only
          omega
        · show p + (cM ((eP T n p).2.2, (eP T n ((eP T n p).2.1 + 1)).2.2)).length ≤ (eP T n ((eP T n p).2.1 + 1)).2.1
          unfold cM
          rw [List.length_append]
          simp only
          omega
      · rw [if_neg e3]
        exact ⟨c2, fun h => by cases h⟩
    · rw [if_neg e2]
      refine ⟨a2, fun _ => ⟨b1, ?_, ?_, Or.inl rfl, b3, b4⟩⟩
      · show p + (cX0 ([], (eP T n p).2.2)).length ≤ (eP T n p).2.1
        unfold cX0
        rw [if_pos rfl]
        exact b2
      · show p + (cM ([], (eP T n p).2.2)).length ≤ (eP T n p).2.1
        unfold cM
        exact b2
  · rw [if_neg e]
    exact ⟨a2, fun h => by cases h⟩
def lnsP (T : Nat → Int32) (n : Nat) : Nat → Nat → List Ln → Bool × Nat × List Ln
  | 0, p, _ => (false, p, [])
  | k + 1, p, acc => if (lnP T n p).1 then (if n ≤ (lnP T n p).2.1 then (true, (lnP T n p).2.1, acc ++ [(lnP T n p).2.2]) else if sgn T n (lnP T n p).2.1 = 59 then lnsP T n k ((lnP T n p).2.1 + 1) (acc ++ [(lnP T n p).2.2]) else (false, (lnP T n p).2.1, [])) else (false, (lnP T n p).2.1, [])
def aftP (T : Nat → Int32) (n k p : Nat) (acc : List Ln) : Bool × Nat × List Ln := if n ≤ p then (true, p, acc) else if sgn T n p = 59 then lnsP T n k (p + 1) acc else (false, p, [])
theorem lnsP_succ (T : Nat → Int32) (n k p : Nat) (acc : List Ln) : lnsP T n (k + 1) p acc = if (lnP T n p).1 then aftP T n k (lnP T n p).2.1 (acc ++ [(lnP T n p).2.2]) else (false, (lnP T n p).2.1, []) := rfl
theorem lns_ok {T : Nat → Int32} {n : Nat} : ∀ (k p : Nat) (acc : List Ln), p ≤ n → (∀ l, l ∈ acc → LnOk l) → (lnsP T n k p acc).2.1 ≤ n ∧ ∀ l, l ∈ (lnsP T n k p acc).2.2 → LnOk l
  | 0, p, acc, hp, _ => ⟨hp, fun l hl => by cases hl⟩
  | k + 1, p, acc, hp, ha => by
    rw [lnsP_succ]
    obtain ⟨a1, a2⟩ := good_ln (T := T) hp
    by_cases e : (lnP T n p).1 = true
    · obtain ⟨b1, b2, b3, b4⟩ := a2 e
      have ha' : ∀ l, l ∈ acc ++ [(lnP T n p).2.2] → LnOk l := fun l hl => by
        rcases List.mem_append.mp hl with hl | hl
        · exact ha l hl
        · rw [List.mem_singleton.mp hl]; exact b4
      rw [if_pos e]
      unfold aftP
      by_cases e2 : n ≤ (lnP T n p).2.1
      · rw [if_pos e2]; exact ⟨a1, ha'⟩
      · rw [if_neg e2]
        by_cases e3 : sgn T n (lnP T n p).2.1 = 59
        · rw [if_pos e3]; exact lns_ok k _ _ (by omega) ha'
        · rw [if_neg e3]; exact ⟨a1, fun l hl => by cases hl⟩
    · rw [if_neg e]; exact ⟨a1, fun l hl => by cases hl⟩
/-! what lines are worth -/
def valC (N : Nat → Int32) (M : List Nat) : Int32 := match runC N M [] with
  | some (v :: _) => v
  | _ => 0
theorem val_wf {M : List Nat} (h : Wf M) (N : Nat → Int32) (st : List Int32) : runC N M st = some (valC N M :: st) := by
  obtain ⟨v, hv⟩ := h N
  have e : valC N M = v := by unfold valC; rw [hv []]
  rw [e, hv]
def valL (N : Nat → Int32) : List Ln → Int32
  | [] => 0
  | l :: L => if l.1 = [] then valC N l.2 else if valC N l.1 = 0 then valL N L else valC N l.2
/-- the class's program, told as a function -/
def evX (N : Nat → Int32) : List Nat → Bool → List Int32 → Option Int32
  | [], _, _ => some 0
  | c :: R, true, st => evX N R (decide (c ≠ 20001)) st
  | c :: R, false, st => if c = 20001 then (match st with | [] => none | v :: _ => some v) else if c = 20000 then (match st with | [] => none | v :: s => evX N R (decide (v = 0)) s) else (stp N c st).bind (evX N R false)
theorem evX_run (N : Nat → Int32) (R : List Nat) : ∀ (M : List Nat) (st : List Int32), (∀ c, c ∈ M → c < 10018) → evX N (M ++ R) false st = (runC N M st).bind (evX N R false)
  | [], _, _ => rfl
  | c :: M, st, h => by
    have hc := h c (List.mem_cons_self ..)
    show (if c = 20001 then _ else if c = 20000 then _ else (stp N c st).bind (evX N (M ++ R) false)) = ((stp N c st).bind (runC N M)).bind (evX N R false)
    rw [if_neg (by omega), if_neg (by omega)]
    cases stp N c st with
    | none => rfl
    | some s => exact evX_run N R M s fun c hc => h c (List.mem_cons_of_mem _ hc)
theorem evX_skip (N : Nat → Int32) (R : List Nat) : ∀ (M : List Nat) (st : List Int32), (∀ c, c ∈ M → c < 10018) → evX N (M ++ 20001 :: R) true st = evX N R false st
  | [], _, _ => rfl
  | c :: M, st, h => by
    have hc := h c (List.mem_cons_self ..)
    show evX N (M ++ 20001 :: R) (decide (c ≠ 20001)) st = _
    rw [show decide (c ≠ 20001) = true from decide_eq_true (by omega)]
    exact evX_skip N R M st fun c hc => h c (List.mem_cons_of_mem _ hc)
theorem evX_lines (N : Nat → Int32) : ∀ (L : List Ln), (∀ l, l ∈ L → LnOk l) → evX N (L.flatMap cX) false [] = some (valL N L)
  | [], _ => rfl
  | l :: L, h => by
    obtain ⟨h1, h2, h3⟩ := h l (List.mem_cons_self ..)
    have ih := evX_lines N L fun l hl => h l (List.mem_cons_of_mem _ hl)
    rw [List.flatMap_cons]
    rw [show cX l = cX0 l ++ [20001] from rfl]
    unfold cX0 valL
    have endl : ∀ v : Int32, evX N ([20001] ++ L.flatMap cX) false [v] = some v := fun v => rfl
    by_cases e : l.1 = []
    · rw [if_pos e, if_pos e, List.append_assoc, evX_run N _ l.2 [] h3, val_wf h2]
      exact endl _
    · rw [if_neg e, if_neg e]
      rcases h1 with h1 | ⟨h1, h4⟩
      · exact absurd h1 e
      rw [List.append_assoc, List.append_assoc, evX_run N _ l.1 [] h4, val_wf h1]
      show evX N (l.2 ++ ([20001] ++ L.flatMap cX)) (decide (valC N l.1 = 0)) [] = _
      by_cases e2 : valC N l.1 = 0
      · rw [if_pos e2, show decide (valC N l.1 = 0) = true from decide_eq_true e2]
        show evX N (l.2 ++ 20001 :: L.flatMap cX) true [] = _
        rw [evX_skip N _ l.2 [] h3]
        exact ih
      · rw [if_neg e2, show decide (valC N l.1 = 0) = false from decide_eq_false e2, evX_run N _ l.2 [] h3, val_wf h2]
        exact endl _
/-- from 0 to 9 -/
def hld (x : Int32) : Int32 := if 0 ≤ x then (if x ≤ 9 then x else 9) else 0
def hn (x : Int32) : Nat := (hld x).toNatClampNeg
theorem hn_ok (x : Int32) : hn x ≤ 9 ∧ nI (hn x) = hld x := by
  unfold hn hld
  rcases i32_split x with ⟨n, n1, n2⟩ | hx
  · have h0 : (0 : Int32) ≤ nI n := by rw [nl0]; exact nI_le (by omega) n1
    rw [n2, if_pos h0]
    by_cases e : n ≤ 9
    · have h9 : nI n ≤ 9 := by rw [nl9]; exact nI_le e (by decide)
      rw [if_pos h9, nI_clamp (by omega)]; exact ⟨e, rfl⟩
    · have h9 : ¬ nI n ≤ 9 := by rw [nl9, nI_leI n1 (by decide)]; exact e
      rw [if_neg h9]; exact ⟨by decide, by decide⟩
  · have h0 : ¬ (0 : Int32) ≤ x := by rw [nl0]; exact neg_nle hx (by decide)
    rw [if_neg h0]
    exact ⟨by decide, by decide⟩
theorem held_x (x : Int32) : f_X4_held x = some (hld x) := by
  unfold f_X4_held hld
  by_cases e : 0 ≤ x
  · rw [if_pos e, if_pos e]
    by_cases e2 : x ≤ 9
    · rw [if_pos e2, if_pos e2]
    · rw [if_neg e2, if_neg e2]
  · rw [if_neg e, if_neg e]
theorem held_m (x : Int32) : mxI 0 (mnI 9 x) = hld x := by
  unfold hld
  rcases i32_split x with ⟨n, n1, n2⟩ | hx
  · have h0 : (0 : Int32) ≤ nI n := by rw [nl0]; exact nI_le (by omega) n1
    rw [n2, if_pos h0]
    by_cases e : n ≤ 9
    · have h9 : nI n ≤ 9 := by rw [nl9]; exact nI_le e (by decide)
      rw [if_pos h9, nl0, nl9, nI_min (by decide) n1, nI_max (by decide) (by omega)]
      exact congrArg nI (by omega)
    · have h9 : ¬ nI n ≤ 9 := by rw [nl9, nI_leI n1 (by decide)]; exact e
      rw [if_neg h9, nl0, nl9, nI_min (by decide) n1, nI_max (by decide) (by omega)]
      exact congrArg nI (by omega)
  · have h0 : ¬ (0 : Int32) ≤ x := by rw [nl0]; exact neg_nle hx (by decide)
    have h9 : x < 9 := by rw [nl9]; exact neg_lt hx (by decide)
    have h1 : ¬ 0 < x := fun h => h0 (Int32.le_of_lt h)
    rw [if_neg h0]
    unfold mnI mxI
    rw [if_pos h9, if_neg h1]
