/-! what comes out of an option, with a property -/
def Ev {α : Type} (o : Option α) (Q : α → Prop) : Prop := ∃ r, o = some r ∧ Q r
theorem ev_some {α : Type} {r : α} {Q : α → Prop} (h : Q r) : Ev (some r) Q := ⟨r, rfl, h⟩
theorem ev_bind {α β : Type} {o : Option α} {k : α → Option β} {Q : β → Prop} (h : Ev o fun v => Ev (k v) Q) : Ev (o.bind k) Q := by
  obtain ⟨r, rfl, r2, h2, h3⟩ := h
  exact ⟨r2, h2, h3⟩
theorem ev_call {α β : Type} {o : Option α} {k : α → Option β} {P : α → Prop} {Q : β → Prop} (h : Ev o P) (hk : ∀ v, P v → Ev (k v) Q) : Ev (o.bind k) Q := by
  obtain ⟨r, rfl, h2⟩ := h
  exact hk r h2
theorem ev_mono {α : Type} {o : Option α} {P Q : α → Prop} (h : Ev o P) (hk : ∀ v, P v → Q v) : Ev o Q := by
  obtain ⟨r, h1, h2⟩ := h
  exact ⟨r, h1, hk r h2⟩
theorem ev_if {α : Type} {c : Prop} [Decidable c] {t e : Option α} {Q : α → Prop} (ht : c → Ev t Q) (he : ¬ c → Ev e Q) : Ev (if c then t else e) Q := by
  by_cases q : c
  · rw [if_pos q]; exact ht q
  · rw [if_neg q]; exact he q
theorem ev_lt {α β : Type} {e : α} {k : α → Option β} {Q : β → Prop} (h : Ev (k e) Q) : Ev (lt e k) Q := h
/-- a loop that comes to its end -/
theorem ev_iter {σ α : Type} {b : σ → Option (σ ⊕ α)} (P : σ → Prop) (μ : σ → Nat) {Q : α → Prop} (hb : ∀ s, P s → Ev (b s) (Sum.elim (fun t => P t ∧ μ t < μ s) Q)) : ∀ (n : Nat) (s : σ), P s → μ s < n → Ev (iter b n s) Q := by
  intro n
  induction n with
  | zero => intro s _ h; exact absurd h (Nat.not_lt_zero _)
  | succ n ih =>
    intro s hs hn
    obtain ⟨o, h1, h2⟩ := hb s hs
    show Ev ((b s).bind (Sum.elim (fun t => iter b n t) some)) Q
    rw [h1]
    cases o with
    | inl t => exact ih t h2.1 (Nat.lt_of_lt_of_le h2.2 (Nat.le_of_lt_succ hn))
    | inr r => exact ⟨r, rfl, h2⟩
/-- a loop over the numbers from k on -/
theorem ev_for {σ α : Type} {b : σ → Option (σ ⊕ α)} (P : Nat → σ → Prop) (N : Nat) {Q : α → Prop} (hb : ∀ k s, k ≤ N → P k s → Ev (b s) (Sum.elim (fun t => k < N ∧ P (k + 1) t) Q)) {n k : Nat} {s : σ} (h0 : P k s) (hk : k ≤ N) (hn : N < n + k) : Ev (iter b n s) Q := by
  induction n generalizing k s with
  | zero => exact absurd hn (by omega)
  | succ n ih =>
    obtain ⟨o, h1, h2⟩ := hb k s hk h0
    show Ev ((b s).bind (Sum.elim (fun t => iter b n t) some)) Q
    rw [h1]
    cases o with
    | inl t => exact ih h2.2 h2.1 (by omega)
    | inr r => exact ⟨r, rfl, h2⟩
theorem FUe : FU = 10000 := rfl
/-! numbers -/
theorem nl0 : (0 : Int32) = nI 0 := rfl
theorem nl1 : (1 : Int32) = nI 1 := rfl
theorem nl2 : (2 : Int32) = nI 2 := rfl
theorem nl3 : (3 : Int32) = nI 3 := rfl
theorem nl4 : (4 : Int32) = nI 4 := rfl
theorem nl5 : (5 : Int32) = nI 5 := rfl
theorem nl6 : (6 : Int32) = nI 6 := rfl
theorem nl7 : (7 : Int32) = nI 7 := rfl
theorem nl8 : (8 : Int32) = nI 8 := rfl
theorem nl9 : (9 : Int32) = nI 9 := rfl
theorem nl10 : (10 : Int32) = nI 10 := rfl
theorem nl11 : (11 : Int32) = nI 11 := rfl
theorem nl12 : (12 : Int32) = nI 12 := rfl
theorem nl24 : (24 : Int32) = nI 24 := rfl
theorem nl36 : (36 : Int32) = nI 36 := rfl
theorem nl39 : (39 : Int32) = nI 39 := rfl
theorem nl40 : (40 : Int32) = nI 40 := rfl
theorem nl50 : (50 : Int32) = nI 50 := rfl
theorem nl60 : (60 : Int32) = nI 60 := rfl
theorem nl99 : (99 : Int32) = nI 99 := rfl
theorem nl120 : (120 : Int32) = nI 120 := rfl
theorem nl156 : (156 : Int32) = nI 156 := rfl
theorem nl255 : (255 : Int32) = nI 255 := rfl
theorem nl999 : (999 : Int32) = nI 999 := rfl
theorem rdI_n {h : Hp} {a k : Nat} (hk : k < SI a) (hs : SI a < 2 ^ 31) : rdI h a (nI k) = some (h.1 a k) := by
  unfold rdI
  rw [if_neg (nI_in hk hs), nI_clamp (by omega)]
theorem wrI_n {h : Hp} {a k : Nat} {v : Int32} (hk : k < SI a) (hs : SI a < 2 ^ 31) : wrI h a (nI k) v = some (stI h a k v) := by
  unfold wrI
  rw [if_neg (nI_in hk hs), nI_clamp (by omega)]
theorem rdL_n {h : Hp} {a k : Nat} (hk : k < SL a) (hs : SL a < 2 ^ 31) : rdL h a (nI k) = some (h.2.1 a k) := by
  unfold rdL
  rw [if_neg (nI_in hk hs), nI_clamp (by omega)]
theorem wrL_n {h : Hp} {a k : Nat} {v : Int64} (hk : k < SL a) (hs : SL a < 2 ^ 31) : wrL h a (nI k) v = some (stL h a k v) := by
  unfold wrL
  rw [if_neg (nI_in hk hs), nI_clamp (by omega)]
theorem stI_at (h : Hp) (a j : Nat) (v : Int32) (k i : Nat) : (stI h a j v).1 k i = if k = a then (if i = j then v else h.1 k i) else h.1 k i := by
  show (if k = a then upd (h.1 a) j v else h.1 k) i = _
  by_cases q : k = a
  · subst q
    rw [if_pos rfl, if_pos rfl]
    by_cases q : i = j
    · subst q; rw [pk_us, if_pos rfl]
    · rw [pk_un q, if_neg q]
  · rw [if_neg q, if_neg q]
theorem stI_L (h : Hp) (a j : Nat) (v : Int32) : (stI h a j v).2 = h.2 := rfl
theorem stL_at (h : Hp) (a j : Nat) (v : Int64) (k i : Nat) : (stL h a j v).2.1 k i = if k = a then (if i = j then v else h.2.1 k i) else h.2.1 k i := by
  show (if k = a then vp_updL (h.2.1 a) j v else h.2.1 k) i = _
  by_cases q : k = a
  · subst q
    rw [if_pos rfl, if_pos rfl]
    rfl
  · rw [if_neg q, if_neg q]
theorem stL_I (h : Hp) (a j : Nat) (v : Int64) : (stL h a j v).1 = h.1 := rfl
theorem stL_R (h : Hp) (a j : Nat) (v : Int64) : (stL h a j v).2.2 = h.2.2 := rfl
theorem upI_at (h : Hp) (a : Nat) (f : Nat → Int32) (k i : Nat) : (upI h a f).1 k i = if k = a then f i else h.1 k i := by
  show (if k = a then f else h.1 k) i = _
  by_cases q : k = a
  · rw [if_pos q, if_pos q]
  · rw [if_neg q, if_neg q]
theorem upI_L (h : Hp) (a : Nat) (f : Nat → Int32) : (upI h a f).2 = h.2 := rfl
theorem cpI_n {h : Hp} {a b i j n : Nat} (ha : 0 < SI a) (hb : 0 < SI b) (h1 : i + n ≤ SI a) (h2 : j + n ≤ SI b) (hs : SI a < 2 ^ 31) (ht : SI b < 2 ^ 31) : cpI h a (nI i) b (nI j) (nI n) = some (upI h b (va_cpy (h.1 a) (h.1 b) i j n)) := by
  unfold cpI
  rw [nI_clamp (by omega), nI_clamp (by omega), nI_clamp (by omega), if_neg]
  rintro (q | q | q | q | q | q | q)
  · exact nI_pos (by omega) q
  · exact nI_pos (by omega) q
  · exact nI_pos (by omega) q
  all_goals omega
/-! every int is a small one, or below 0, or a large one -/
theorem i32_split (x : Int32) : (∃ n, n < 2 ^ 31 ∧ x = nI n) ∨ x < 0 := by
  by_cases q : x < 0
  · exact Or.inr q
  · exact Or.inl (nI_of q)
theorem nI_lt0 {n : Nat} (h : n < 2 ^ 31) : (nI n < nI 0) = False := by
  rw [← nl0]; exact eq_false (nI_pos h)
theorem nI_m1 {n : Nat} (h : n < 2 ^ 31) : ¬ nI n = -1 := fun e => by
  have h1 := congrArg Int32.toInt e
  rw [nI_toInt h, show (-1 : Int32).toInt = -1 by decide] at h1
  omega
theorem nI_m2 {n : Nat} (h : n < 2 ^ 31) : ¬ nI n = -2 := fun e => by
  have h1 := congrArg Int32.toInt e
  rw [nI_toInt h, show (-2 : Int32).toInt = -2 by decide] at h1
  omega
theorem neg_lt {x : Int32} (h : x < 0) {n : Nat} (hn : n < 2 ^ 31) : x < nI n := by
  rw [Int32.lt_iff_toInt_lt] at h ⊢
  rw [nI_toInt hn]
  rw [show (0 : Int32).toInt = 0 by decide] at h
  omega
theorem neg_nle {x : Int32} (h : x < 0) {n : Nat} (hn : n < 2 ^ 31) : ¬ nI n ≤ x := by
  rw [Int32.lt_iff_toInt_lt] at h
  rw [Int32.le_iff_toInt_le, nI_toInt hn]
  rw [show (0 : Int32).toInt = 0 by decide] at h
  omega
theorem nI_sub {a b : Nat} (h : b ≤ a) : nI a - nI b = nI (a - b) := by
  have h1 : nI (a - b) + nI b = nI a := by rw [nI_add, Nat.sub_add_cancel h]
  rw [← h1, Int32.add_sub_cancel]
theorem nI_mul (a b : Nat) : nI a * nI b = nI (a * b) := by
  show Int32.ofNat a * Int32.ofNat b = Int32.ofNat (a * b)
  rw [Int32.ofNat_mul]
theorem nI_div {a b : Nat} (ha : a < 2 ^ 31) (hb : b < 2 ^ 31) : nI a / nI b = nI (a / b) := by
  apply Int32.toInt_inj.mp
  have h1 : a / b ≤ a := Nat.div_le_self a b
  rw [Int32.toInt_div, nI_toInt ha, nI_toInt hb, nI_toInt (by omega), ← Int.ofNat_tdiv]
  generalize a / b = c at h1
  rw [Int.bmod_eq_of_le] <;> omega
theorem nI_mod {a b : Nat} (ha : a < 2 ^ 31) (hb : b < 2 ^ 31) : nI a % nI b = nI (a % b) := by
  apply Int32.toInt_inj.mp
  have h1 : a % b ≤ a := Nat.mod_le a b
  rw [Int32.toInt_mod, nI_toInt ha, nI_toInt hb, nI_toInt (by omega), ← Int.ofNat_tmod]
theorem nI_min {a b : Nat} (ha : a < 2 ^ 31) (hb : b < 2 ^ 31) : mnI (nI a) (nI b) = nI (min a b) := by
  unfold mnI
  rw [Nat.min_def]
  by_cases q : a ≤ b
  · rw [if_pos q, if_neg (nI_nlt q hb)]
  · rw [if_neg q, if_pos (nI_lt (by omega) ha)]
theorem nI_max {a b : Nat} (ha : a < 2 ^ 31) (hb : b < 2 ^ 31) : mxI (nI a) (nI b) = nI (max a b) := by
  unfold mxI
  rw [Nat.max_def]
  by_cases q : a < b
  · rw [if_pos (nI_lt q hb), if_pos (by omega)]
  · rw [if_neg (nI_nlt (by omega) ha)]
    by_cases e : a ≤ b
    · rw [if_pos e, show a = b by omega]
    · rw [if_neg e]
