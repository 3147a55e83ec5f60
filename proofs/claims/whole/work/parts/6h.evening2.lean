/-! the class's evening -/
def EvC (f : Fo) (φ : Ph) (s : Sc) (n : Nat) (q : Nat → Nat) (g : Hp) : Prop := n ≤ 12 ∧ g.1 44 4 = nI n ∧ (∀ j, j < n → q j < foW f ∧ scF s (q j) = false ∧ g.1 45 j = nI (q j) ∧ g.1 46 j = nI (foB f (q j)) ∧ g.1 47 j = nI (hmN f (q j)) ∧ g.1 48 j = nI (cwN f φ s (q j))) ∧ ∀ i j, i < j → j < n → q i < q j
def rsN (c : Nat → Nat) : Nat → Nat → Nat
  | _, 0 => 0
  | k, r + 1 => c k + rsN c (k + 1) r
theorem rest_x {f : Fo} {φ : Ph} {s : Sc} {n k : Nat} {q : Nat → Nat} {g : Hp} (E : EvC f φ s n q g) (hk : k ≤ n) : Ev (f_X2_restFrom (nI k) g) fun r => r = nI (rsN (fun j => cwN f φ s (q j)) k (n - k)) := by
  obtain ⟨e1, e2, e3, e4⟩ := E
  unfold f_X2_restFrom
  refine ev_call (P := fun u : Int32 × Int32 => u.1 = nI (rsN (fun j => cwN f φ s (q j)) k (n - k))) (ev_for (k := k) (fun j (u : Int32 × Int32) => u.2 = nI j ∧ ∃ a, u.1 = nI a ∧ a + rsN (fun j => cwN f φ s (q j)) j (n - j) = rsN (fun j => cwN f φ s (q j)) k (n - k)) n (fun j u hj hu => ?_) ⟨rfl, 0, rfl, Nat.zero_add _⟩ hk (by rw [FUe]; omega)) (fun u hu => ev_some hu)
  obtain ⟨y, y2⟩ := u
  obtain ⟨p1, a, p2, p3⟩ := hu
  simp only at p1 p2
  subst p1 p2
  unfold b_X2_restFrom_4
  rw [e2]
  by_cases z : n ≤ j
  · rw [if_pos (nI_le z (by omega))]
    rw [show n - j = 0 by omega] at p3
    exact ev_some (by rw [← p3]; rfl)
  · rw [if_neg (by rw [nI_leI (by omega) (by omega)]; exact z)]
    simp only
    rw [rd_48 (by omega), (e3 j (by omega)).2.2.2.2.2]
    rw [show n - j = (n - (j + 1)) + 1 by omega, rsN] at p3
    refine ev_some ⟨by omega, by show nI j + 1 = nI (j + 1); rw [nl1, nI_add], a + cwN f φ s (q j), by rw [nI_add], ?_⟩
    omega
theorem better_x {f : Fo} {φ : Ph} {s : Sc} {g : Hp} {A F : Nat} (hφ : PhOk φ) (hW : foW f ≤ 12) (hA : A < 4096) (hF : F < 4096) (g5 : g.1 44 5 = nI (smW f φ s F)) (g6 : g.1 44 6 = nI F) : Ev (f_X2_isBetter (nI (smW f φ s A)) (nI A) g) fun r => (r = 0 ∧ LeE f φ s A F) ∨ (r = 1 ∧ LeE f φ s F A) := by
  have sle : ∀ m, smW f φ s m ≤ 108 := fun m => by have := smP_le (f := f) (s := s) hφ m (foW f); unfold smW; omega
  have l1 := sle A
  have l2 := sle F
  have b1 := pc_le A 12
  have b2 := pc_le F 12
  unfold f_X2_isBetter
  rw [g5, g6]
  by_cases c : smW f φ s A = smW f φ s F
  · rw [if_pos (by rw [c]), bitc hA, bitc hF]
    simp only [Option.bind_some]
    by_cases c2 : pcN A 12 = pcN F 12
    · rw [if_pos (by rw [c2, Int32.sub_self])]
      by_cases c3 : F ≤ A
      · rw [if_pos (nI_le c3 (by omega))]
        exact ev_some (Or.inl ⟨rfl, by unfold LeE; omega⟩)
      · rw [if_neg (by rw [nI_leI (by omega) (by omega)]; exact c3)]
        exact ev_some (Or.inr ⟨rfl, by unfold LeE; omega⟩)
    · have hd := dif_toInt (a := pcN A 12) (b := pcN F 12) (by omega) (by omega)
      rw [if_neg (fun x => by rw [x, show (0 : Int32).toInt = 0 by decide] at hd; omega)]
      by_cases c3 : pcN F 12 < pcN A 12
      · rw [if_pos (by rw [Int32.le_iff_toInt_le, hd, show (0 : Int32).toInt = 0 by decide]; omega)]
        exact ev_some (Or.inl ⟨rfl, by unfold LeE; omega⟩)
      · rw [if_neg (by rw [Int32.le_iff_toInt_le, hd, show (0 : Int32).toInt = 0 by decide]; omega)]
        exact ev_some (Or.inr ⟨rfl, by unfold LeE; omega⟩)
  · rw [if_neg (by rw [nI_eq (by omega) (by omega)]; exact c)]
    by_cases c2 : smW f φ s A ≤ smW f φ s F
    · rw [if_pos (nI_le c2 (by omega))]
      exact ev_some (Or.inl ⟨rfl, by unfold LeE; omega⟩)
    · rw [if_neg (by rw [nI_leI (by omega) (by omega)]; exact c2)]
      exact ev_some (Or.inr ⟨rfl, by unfold LeE; omega⟩)
/-- sets that go on from A by offers from k on -/
def GoOn (n k : Nat) (q : Nat → Nat) (A m : Nat) : Prop := (∀ j, j < k → m.testBit (q j) = A.testBit (q j)) ∧ ∀ w, m.testBit w = true → ∃ j, j < n ∧ q j = w
def InO (n k : Nat) (q : Nat → Nat) (A : Nat) : Prop := ∀ w, A.testBit w = true → ∃ j, j < k ∧ q j = w
theorem goOn_end {n : Nat} {q : Nat → Nat} {A m : Nat} (hA : InO n n q A) (h : GoOn n n q A m) : m = A := by
  refine Nat.eq_of_testBit_eq fun w => ?_
  cases e : m.testBit w with
  | true =>
    obtain ⟨j, j1, j2⟩ := h.2 w e
    rw [← j2, ← h.1 j j1, j2, e]
  | false =>
    cases e2 : A.testBit w with
    | false => rfl
    | true =>
      obtain ⟨j, j1, j2⟩ := hA w e2
      rw [← j2, ← h.1 j j1, j2, e] at e2
      cases e2
theorem inO_no {n k : Nat} {q : Nat → Nat} {A : Nat} (hq : ∀ i j, i < j → j < n → q i < q j) (hk : k < n) (hA : InO n k q A) : A.testBit (q k) = false := by
  cases e : A.testBit (q k) with
  | false => rfl
  | true =>
    obtain ⟨j, j1, j2⟩ := hA _ e
    have := hq j k j1 hk
    omega
theorem inO_up {n k : Nat} {q : Nat → Nat} {A : Nat} (hA : InO n k q A) : InO n (k + 1) q A := fun w hw => by
  obtain ⟨j, j1, j2⟩ := hA w hw
  exact ⟨j, by omega, j2⟩
theorem inO_add {n k : Nat} {q : Nat → Nat} {A : Nat} (hA : InO n k q A) : InO n (k + 1) q (A ||| 2 ^ q k) := fun w hw => by
  rw [or_tb, Bool.or_eq_true, decide_eq_true_eq] at hw
  rcases hw with hw | hw
  · obtain ⟨j, j1, j2⟩ := hA w hw
    exact ⟨j, by omega, j2⟩
  · exact ⟨k, by omega, hw⟩
theorem goOn_no {n k : Nat} {q : Nat → Nat} {A m : Nat} (hq : ∀ i j, i < j → j < n → q i < q j) (hk : k < n) (hA : InO n k q A) (h : GoOn n k q A m) (hm : m.testBit (q k) = false) : GoOn n (k + 1) q A m := by
  refine ⟨fun j hj => ?_, h.2⟩
  by_cases e : j = k
  · rw [e, hm, inO_no hq hk hA]
  · exact h.1 j (by omega)
theorem goOn_yes {n k : Nat} {q : Nat → Nat} {A m : Nat} (hq : ∀ i j, i < j → j < n → q i < q j) (hk : k < n) (h : GoOn n k q A m) (hm : m.testBit (q k) = true) : GoOn n (k + 1) q (A ||| 2 ^ q k) m := by
  refine ⟨fun j hj => ?_, h.2⟩
  rw [or_tb]
  by_cases e : j = k
  · rw [e, hm]; simp
  · have h1 := hq j k (by omega) hk
    rw [h.1 j (by omega)]
    simp; omega
theorem sm_add {f : Fo} {φ : Ph} {s : Sc} {A w : Nat} (hw : w < foW f) (hA : A.testBit w = false) : smW f φ s (A ||| 2 ^ w) = smW f φ s A + cwN f φ s w := by
  unfold smW
  refine smP_add (i := w) (by rw [or_tb]; simp) hA (fun j hj => ?_) _ hw
  rw [or_tb]
  simp; omega
theorem rest_le {f : Fo} {φ : Ph} {s : Sc} {n : Nat} {q : Nat → Nat} (hW : ∀ j, j < n → q j < foW f) (hq : ∀ i j, i < j → j < n → q i < q j) : ∀ r k A m, k + r = n → InO n k q A → GoOn n k q A m → smW f φ s m ≤ smW f φ s A + rsN (fun j => cwN f φ s (q j)) k r
  | 0, k, A, m, hr, hA, h => by
    have e : k = n := by omega
    subst e
    rw [goOn_end hA h]
    exact Nat.le_add_right _ _
  | r + 1, k, A, m, hr, hA, h => by
    rw [rsN]
    cases e : m.testBit (q k) with
    | true =>
      have h1 := rest_le (φ := φ) (s := s) hW hq r (k + 1) (A ||| 2 ^ q k) m (by omega) (inO_add hA) (goOn_yes hq (by omega) h e)
      rw [sm_add (hW k (by omega)) (inO_no hq (by omega) hA)] at h1
      omega
    | false =>
      have h1 := rest_le (φ := φ) (s := s) hW hq r (k + 1) A m (by omega) (inO_up hA) (goOn_no hq (by omega) hA h e)
      omega
/-- the best so far, as the cells hold it -/
def BestC (f : Fo) (φ : Ph) (s : Sc) (F : Nat) (g : Hp) : Prop := g.1 44 5 = nI (smW f φ s F) ∧ g.1 44 6 = nI F ∧ F < 2 ^ foW f ∧ OkP f s F (foW f)
def SameC (g g' : Hp) : Prop := (∀ j, j ≠ 5 → j ≠ 6 → g'.1 44 j = g.1 44 j) ∧ Kp [44] g g'
theorem SameC.trans {a b c : Hp} (h1 : SameC a b) (h2 : SameC b c) : SameC a c := ⟨fun j h5 h6 => (h2.1 j h5 h6).trans (h1.1 j h5 h6), h1.2.trans h2.2⟩
theorem EvC.same {f : Fo} {φ : Ph} {s : Sc} {n : Nat} {q : Nat → Nat} {g g' : Hp} (E : EvC f φ s n q g) (h : SameC g g') : EvC f φ s n q g' := by
  obtain ⟨e1, e2, e3, e4⟩ := E
  refine ⟨e1, by rw [h.1 4 (by decide) (by decide)]; exact e2, fun j hj => ?_, e4⟩
  rw [h.2.i 45 (by decide), h.2.i 46 (by decide), h.2.i 47 (by decide), h.2.i 48 (by decide)]
  exact e3 j hj
theorem bitsOf_add {f : Fo} {g : Nat → Nat} {A d w : Nat} (h : BitsOf g A (foW f) d) (hw : w < foW f) (hg : g w < 12) : BitsOf g (A ||| 2 ^ w) (foW f) (d ||| 2 ^ g w) := by
  refine ⟨or_lt (W := 12) h.1 hg, fun a => ?_⟩
  rw [or_tb, Bool.or_eq_true, h.2 a, decide_eq_true_eq]
  constructor
  · rintro (⟨v, h1, h2, h3⟩ | h1)
    · exact ⟨v, h1, by rw [or_tb, h2]; rfl, h3⟩
    · exact ⟨w, hw, by rw [or_tb]; simp, h1⟩
  · rintro ⟨v, h1, h2, h3⟩
    rw [or_tb, Bool.or_eq_true, decide_eq_true_eq] at h2
    rcases h2 with h2 | h2
    · exact Or.inl ⟨v, h1, h2, h3⟩
    · right; rw [h2, h3]
theorem okP_add {f : Fo} {s : Sc} {A d e w : Nat} (hok : OkP f s A (foW f)) (hd : BitsOf (foB f) A (foW f) d) (he : BitsOf (hmN f) A (foW f) e) (hf : scF s w = false) (h1 : d.testBit (foB f w) = false) (h2 : e.testBit (hmN f w) = false) (hw : w < foW f) : OkP f s (A ||| 2 ^ w) (foW f) := by
  have nd : ∀ v, v < foW f → A.testBit v = true → foB f v ≠ foB f w ∧ hmN f v ≠ hmN f w := by
    intro v hv ha
    refine ⟨fun e1 => ?_, fun e1 => ?_⟩
    · rw [(hd.2 _).mpr ⟨v, hv, ha, e1⟩] at h1; cases h1
    · rw [(he.2 _).mpr ⟨v, hv, ha, e1⟩] at h2; cases h2
  refine ⟨fun v hv hb => ?_, fun u v huv hv hu hb => ?_⟩
  · rw [or_tb, Bool.or_eq_true, decide_eq_true_eq] at hb
    rcases hb with hb | hb
    · exact hok.1 v hv hb
    · rw [← hb]; exact hf
  · rw [or_tb, Bool.or_eq_true, decide_eq_true_eq] at hu hb
    rcases hu with hu | hu <;> rcases hb with hb | hb
    · exact hok.2 u v huv hv hu hb
    · rw [← hb]; exact nd u (by omega) hu
    · rw [← hu]
      have := nd v hv hb
      exact ⟨fun e => this.1 e.symm, fun e => this.2 e.symm⟩
    · omega
theorem choose_x {f : Fo} {φ : Ph} {s : Sc} {n : Nat} {q : Nat → Nat} (hφ : PhOk φ) (ok : FoOk f) : ∀ (r k fu : Nat) (A F d e : Nat) (g : Hp), k + r = n → r < fu → LR g → EvC f φ s n q g → BestC f φ s F g → A < 2 ^ foW f → OkP f s A (foW f) → InO n k q A → BitsOf (foB f) A (foW f) d → BitsOf (hmN f) A (foW f) e → Ev (fG_GC fu 0 [nI k, nI (smW f φ s A), nI A, nI d, nI e] g) fun t => ∃ F', BestC f φ s F' t.2 ∧ SameC g t.2 ∧ LeE f φ s F F' ∧ ∀ m, OkP f s m (foW f) → GoOn n k q A m → LeE f φ s m F' := by
  have h10 := ok.1
  have h12 := ok.2.1
  have hpow : 2 ^ foW f ≤ 4096 := Nat.pow_le_pow_right (show 1 ≤ 2 by decide) h12
  have sle : ∀ m, smW f φ s m ≤ 108 := fun m => by have := smP_le (f := f) (s := s) hφ m (foW f); unfold smW; omega
  intro r
  induction r with
  | zero =>
    intro k fu A F d e g hk hfu hq E B hA hok hin hd he
    obtain ⟨fu', rfl⟩ : ∃ x, fu = x + 1 := ⟨fu - 1, by omega⟩
    have ek : k = n := by omega
    subst ek
    show Ev (m_X2_choose (fG_GC fu') (nI k) (nI (smW f φ s A)) (nI A) (nI d) (nI e) g) _
    unfold m_X2_choose
    rw [E.2.1, if_neg (nI_nlt (Nat.le_refl _) (by have := E.1; omega))]
    refine ev_call (better_x hφ h12 (show A < 4096 by omega) (show F < 4096 by have := B.2.2.1; omega) B.1 B.2.1) (fun t ht => ?_)
    rcases ht with ⟨t1, t2⟩ | ⟨t1, t2⟩
    · rw [if_pos t1]
      exact ev_some ⟨F, B, ⟨fun _ _ _ => rfl, Kp.refl hq⟩, LeE.refl _, fun m _ hm => by rw [goOn_end hin hm]; exact t2⟩
    · rw [if_neg (by rw [t1]; decide)]
      refine ev_some ⟨A, ⟨?_, rfl, hA, hok⟩, ⟨fun j h5 h6 => ?_, ((Kp.refl hq).st (by decide)).st (by decide)⟩, t2, fun m _ hm => by rw [goOn_end hin hm]; exact LeE.refl _⟩
      · show (stI (stI g 44 5 _) 44 6 _).1 44 5 = _
        rw [stI_at, if_pos rfl, if_neg (by decide), stI_at, if_pos rfl, if_pos rfl]
      · show (stI (stI g 44 5 _) 44 6 _).1 44 j = _
        rw [stI_at, if_pos rfl, if_neg h6, stI_at, if_pos rfl, if_neg h5]
  | succ r ih =>
    intro k fu A F d e g hk hfu hq E B hA hok hin hd he
    obtain ⟨fu', rfl⟩ : ∃ x, fu = x + 1 := ⟨fu - 1, by omega⟩
    have hkn : k < n := by omega
    have n12 := E.1
    obtain ⟨q1, q2, q3, q4, q5, q6⟩ := E.2.2.1 k hkn
    have hmono := E.2.2.2
    have a2 := ok.2.2.2 _ q1
    have hT : hmN f (q k) < 12 := (ok.2.2.1 _ a2.2.1).1
    have c9 : cwN f φ s (q k) ≤ 9 := hφ _ _ _ _ _ _
    show Ev (m_X2_choose (fG_GC fu') (nI k) (nI (smW f φ s A)) (nI A) (nI d) (nI e) g) _
    unfold m_X2_choose
    rw [E.2.1, if_pos (nI_lt hkn (by omega))]
    refine ev_call (rest_x E (by omega)) (fun t ht => ?_)
    have l1 := sle A
    have l2 := sle F
    have lr : ∀ r k, rsN (fun j => cwN f φ s (q j)) k r ≤ 9 * r := by
      intro r
      induction r with
      | zero => intro k; exact Nat.le_refl _
      | succ r ih =>
        intro k
        have h1 := ih (k + 1)
        have h2 : cwN f φ s (q k) ≤ 9 := hφ _ _ _ _ _ _
        rw [rsN]
        omega
    have l3 := lr (n - k) k
    rw [ht, B.1, nI_add]
    by_cases c0 : smW f φ s F ≤ smW f φ s A + rsN (fun j => cwN f φ s (q j)) k (n - k)
    rotate_left
    · rw [if_neg (by rw [nI_leI (by omega) (by omega)]; exact c0)]
      refine ev_some ⟨F, B, ⟨fun _ _ _ => rfl, Kp.refl hq⟩, LeE.refl _, fun m _ hm => ?_⟩
      have := rest_le (φ := φ) (s := s) (fun j hj => (E.2.2.1 j hj).1) hmono (n - k) k A m (by omega) hin hm
      exact Or.inl (by omega)
    rw [if_pos (nI_le c0 (by omega)), rd_46 (by omega), rd_47 (by omega), q4, q5]
    simp only [Option.bind_some]
    have leave : ∀ (g' : Hp) (F1 : Nat), SameC g g' → BestC f φ s F1 g' → LeE f φ s F F1 → (∀ m, OkP f s m (foW f) → GoOn n k q A m → m.testBit (q k) = true → LeE f φ s m F1) → Ev (j_X2_choose_114 (fG_GC fu') (nI k) (nI (smW f φ s A)) (nI A) (nI d) (nI e) g') fun t => ∃ F', BestC f φ s F' t.2 ∧ SameC g t.2 ∧ LeE f φ s F F' ∧ ∀ m, OkP f s m (foW f) → GoOn n k q A m → LeE f φ s m F' := by
      intro g' F1 hs hB hl hm
      unfold j_X2_choose_114
      rw [nl1, nI_add]
      refine ev_call (ih (k + 1) fu' A F1 d e g' (by omega) (by omega) hs.2.1 (E.same hs) hB hA hok (inO_up hin) hd he) (fun t ht => ?_)
      obtain ⟨F', t1, t2, t3, t4⟩ := ht
      refine ev_some ⟨F', t1, hs.trans t2, hl.trans t3, fun m ho hg => ?_⟩
      cases eb : m.testBit (q k) with
      | true => exact (hm m ho hg eb).trans t3
      | false => exact t4 m ho (goOn_no hmono hkn hin hg eb)
    have none1 : (d.testBit (foB f (q k)) = true ∨ e.testBit (hmN f (q k)) = true) → ∀ m, OkP f s m (foW f) → GoOn n k q A m → m.testBit (q k) = true → False := by
      intro hc m ho hg hb
      have sub : ∀ v, v < foW f → A.testBit v = true → m.testBit v = true ∧ v < q k := by
        intro v hv ha
        obtain ⟨j, j1, j2⟩ := hin v ha
        refine ⟨by rw [← j2, hg.1 j j1, j2]; exact ha, ?_⟩
        rw [← j2]; exact hmono j k j1 hkn
      rcases hc with hc | hc
      · obtain ⟨v, v1, v2, v3⟩ := (hd.2 _).mp hc
        obtain ⟨s1, s2⟩ := sub v v1 v2
        exact (ho.2 v (q k) s2 q1 s1 hb).1 v3
      · obtain ⟨v, v1, v2, v3⟩ := (he.2 _).mp hc
        obtain ⟨s1, s2⟩ := sub v v1 v2
        exact (ho.2 v (q k) s2 q1 s1 hb).2 v3
    have hsh : ∀ i, i < 13 → (1 : Int32) <<< (nI i &&& 31) = nI (2 ^ i) := fun i hi => bit_one i hi
    have sh1 : ∀ i, (1 : Int32) <<< (nI i &&& 31) = nI 1 <<< (nI i &&& 31) := fun _ => rfl
    have d0 : (nI d &&& ((1 : Int32) <<< (nI (foB f (q k)) &&& 31))) = 0 ↔ d.testBit (foB f (q k)) = false := by
      rw [hsh _ (by omega), and_n (by have := hd.1; omega), nl0, nI_eq (Nat.lt_of_le_of_lt Nat.and_le_left (by have := hd.1; omega)) (by decide), and_pow]
    have e0 : (nI e &&& ((1 : Int32) <<< (nI (hmN f (q k)) &&& 31))) = 0 ↔ e.testBit (hmN f (q k)) = false := by
      rw [hsh _ (by omega), and_n (by have := he.1; omega), nl0, nI_eq (Nat.lt_of_le_of_lt Nat.and_le_left (by have := he.1; omega)) (by decide), and_pow]
    cases ed : d.testBit (foB f (q k)) with
    | true =>
      rw [if_neg (fun x => by rw [d0.mp x] at ed; cases ed)]
      exact leave g F ⟨fun _ _ _ => rfl, Kp.refl hq⟩ B (LeE.refl _) (fun m ho hg hb => (none1 (Or.inl ed) m ho hg hb).elim)
    | false =>
      rw [if_pos (d0.mpr ed)]
      cases ee : e.testBit (hmN f (q k)) with
      | true =>
        rw [if_neg (fun x => by rw [e0.mp x] at ee; cases ee)]
        exact leave g F ⟨fun _ _ _ => rfl, Kp.refl hq⟩ B (LeE.refl _) (fun m ho hg hb => (none1 (Or.inr ee) m ho hg hb).elim)
      | false =>
        rw [if_pos (e0.mpr ee), rd_48 (by omega), rd_45 (by omega), q6, q3]
        simp only [Option.bind_some]
        have hAq := inO_no hmono hkn hin
        rw [nI_add, sh1, sh1, sh1, bit_or (show A < 4096 by omega) (show q k < 12 by omega), bit_or hd.1 (show foB f (q k) < 12 by omega), bit_or he.1 hT, ← sm_add q1 hAq, nl1, nI_add]
        refine ev_call (ih (k + 1) fu' (A ||| 2 ^ q k) F (d ||| 2 ^ foB f (q k)) (e ||| 2 ^ hmN f (q k)) g (by omega) (by omega) hq E B (or_lt hA q1) (okP_add hok hd he q2 ed ee q1) (inO_add hin) (bitsOf_add hd q1 (by omega)) (bitsOf_add he q1 hT)) (fun t ht => ?_)
        obtain ⟨F', t1, t2, t3, t4⟩ := ht
        exact leave t.2 F' t2 t1 t3 (fun m ho hg hb => t4 m ho (goOn_yes hmono hkn hg hb))
/-- the offers, laid out -/
theorem offers_x {f : Fo} {s : Sc} {φ : Ph} {h g0 : Hp} {a1 : Int32} (R : RX f s φ h) (K0 : Kp [11, 12, 44, 45, 46, 47, 48] h g0) (g4 : g0.1 44 4 = 0) : Ev (iter (b_X7_evening_20 a1) FU (0, g0)) fun u => ∃ n q, EvC f φ s n q u.2 ∧ (∀ w, w < foW f → scF s w = false → cwN f φ s w ≠ 0 → ∃ j, j < n ∧ q j = w) ∧ u.2.1 44 5 = g0.1 44 5 ∧ u.2.1 44 6 = g0.1 44 6 ∧ Kp [11, 12, 44, 45, 46, 47, 48] h u.2 := by
  obtain ⟨qR, hφ, ok, so, F0, S0, L0, t0⟩ := R
  have h10 := ok.1
  have h12 := ok.2.1
  refine ev_for (k := 0) (fun w (u : Int32 × Hp) => u.1 = nI w ∧ ∃ n q, n ≤ w ∧ EvC f φ s n q u.2 ∧ (∀ j, j < n → q j < w) ∧ (∀ v, v < w → scF s v = false → cwN f φ s v ≠ 0 → ∃ j, j < n ∧ q j = v) ∧ u.2.1 44 5 = g0.1 44 5 ∧ u.2.1 44 6 = g0.1 44 6 ∧ Kp [11, 12, 44, 45, 46, 47, 48] h u.2) (foW f) (fun w u hw hu => ?_) ⟨rfl, 0, fun _ => 0, Nat.le_refl _, ⟨by decide, g4, fun j hj => absurd hj (Nat.not_lt_zero j), fun i j _ hj => absurd hj (Nat.not_lt_zero j)⟩, fun j hj => absurd hj (Nat.not_lt_zero j), fun v hv => absurd hv (Nat.not_lt_zero v), rfl, rfl, K0⟩ (Nat.zero_le _) (by rw [FUe]; omega)
  obtain ⟨y, g⟩ := u
  obtain ⟨p1, n, q, p2, p3, p4, p5, p6, p7, p8⟩ := hu
  simp only at p1 p3 p6 p7 p8
  subst p1
  have F := F0.kp p8 (by decide)
  have S := S0.kp p8 (by decide) (by decide) (by decide)
  have L := L0.kp p8 (by decide)
  unfold b_X7_evening_20
  simp only
  rw [F.2.1]
  by_cases z : foW f ≤ w
  · have e : w = foW f := by omega
    rw [if_pos (nI_le z (by omega))]
    exact ev_some ⟨n, q, p3, fun v hv => p5 v (by omega), p6, p7, p8⟩
  · have hw' : w < foW f := by omega
    have a2 := ok.2.2.2 w hw'
    have hT := (ok.2.2.1 _ a2.2.1).1
    rw [if_neg (by rw [nI_leI (by omega) (by omega)]; exact z), isForg_x ok13 h12 S hw']
    simp only [Option.bind_some]
    have skip : ∀ g' : Hp, EvC f φ s n q g' → (scF s w = false → cwN f φ s w ≠ 0 → False) → g'.1 44 5 = g0.1 44 5 → g'.1 44 6 = g0.1 44 6 → Kp [11, 12, 44, 45, 46, 47, 48] h g' → Ev (some (Sum.inl (nI w + 1, g')) : Option ((Int32 × Hp) ⊕ (Int32 × Hp))) (Sum.elim (fun u : Int32 × Hp => w < foW f ∧ u.1 = nI (w + 1) ∧ ∃ n q, n ≤ w + 1 ∧ EvC f φ s n q u.2 ∧ (∀ j, j < n → q j < w + 1) ∧ (∀ v, v < w + 1 → scF s v = false → cwN f φ s v ≠ 0 → ∃ j, j < n ∧ q j = v) ∧ u.2.1 44 5 = g0.1 44 5 ∧ u.2.1 44 6 = g0.1 44 6 ∧ Kp [11, 12, 44, 45, 46, 47, 48] h u.2) (fun u : Int32 × Hp => ∃ n q, EvC f φ s n q u.2 ∧ (∀ w, w < foW f → scF s w = false → cwN f φ s w ≠ 0 → ∃ j, j < n ∧ q j = w) ∧ u.2.1 44 5 = g0.1 44 5 ∧ u.2.1 44 6 = g0.1 44 6 ∧ Kp [11, 12, 44, 45, 46, 47, 48] h u.2)) := by
      intro g' hE hn h5 h6 hK
      refine ev_some ⟨hw', by rw [nl1, nI_add], n, q, by omega, hE, fun j hj => by have := p4 j hj; omega, fun v hv h1 h2 => ?_, h5, h6, hK⟩
      by_cases e : v = w
      · rw [e] at h1 h2; exact (hn h1 h2).elim
      · exact p5 v (by omega) h1 h2
    cases ef : scF s w with
    | true =>
      rw [if_neg (by decide)]
      exact skip g p3 (fun h => by rw [h] at ef; cases ef) p6 p7 p8
    | false =>
      rw [if_pos (by decide), rd_5 (by omega), (F.2.2.2 w hw').2.1]
      simp only [Option.bind_some]
      rw [rd_2 (by omega), (F.2.2.1 _ a2.2.1).1]
      simp only [Option.bind_some]
      rw [rd_4 (by omega), (F.2.2.2 w hw').1]
      simp only [Option.bind_some]
      refine ev_call (worth_k ok13 p8.1 ok so F S L hw' hT) (fun r hr => ?_)
      obtain ⟨r1, r2⟩ := hr
      have c9 : cwN f φ s w ≤ 9 := hφ _ _ _ _ _ _
      have r1' : r.1 = nI (cwN f φ s w) := r1
      have E2 : EvC f φ s n q r.2 := by
        obtain ⟨e1, e2, e3, e4⟩ := p3
        refine ⟨e1, by rw [r2.i 44 (by decide)]; exact e2, fun j hj => ?_, e4⟩
        rw [r2.i 45 (by decide), r2.i 46 (by decide), r2.i 47 (by decide), r2.i 48 (by decide)]
        exact e3 j hj
      have K2 : Kp [11, 12, 44, 45, 46, 47, 48] h r.2 := p8.trans (r2.mono (by decide))
      have h5 : r.2.1 44 5 = g0.1 44 5 := by rw [r2.i 44 (by decide)]; exact p6
      have h6 : r.2.1 44 6 = g0.1 44 6 := by rw [r2.i 44 (by decide)]; exact p7
      unfold f_X2_offer
      rw [r1']
      by_cases c0 : cwN f φ s w = 0
      · rw [if_pos (by rw [c0]; rfl)]
        exact skip r.2 E2 (fun _ h => h c0) h5 h6 K2
      · have n12 : n < 12 := by omega
        rw [if_neg (by rw [nl0, nI_eq (by omega) (by decide)]; exact c0), E2.2.1, if_neg (by rw [nl12, nI_eq (by omega) (by decide)]; omega), wr_45 n12]
        simp only [Option.bind_some]
        have k4 : ∀ x : Hp, x.1 44 = r.2.1 44 → x.1 44 4 = nI n := fun x hx => by rw [hx]; exact E2.2.1
        rw [k4 (stI r.2 45 n (nI w)) rfl, wr_46 n12]
        simp only [Option.bind_some]
        rw [k4 (stI (stI r.2 45 n (nI w)) 46 n (nI (foB f w))) rfl, wr_47 n12]
        simp only [Option.bind_some]
        rw [k4 (stI (stI (stI r.2 45 n (nI w)) 46 n (nI (foB f w))) 47 n (nI (foH f (foT f w)))) rfl, wr_48 n12]
        simp only [Option.bind_some, lt]
        rw [k4 (stI (stI (stI (stI r.2 45 n (nI w)) 46 n (nI (foB f w))) 47 n (nI (foH f (foT f w)))) 48 n (nI (cwN f φ s w))) rfl, nI_1]
        refine ev_some ⟨hw', by rw [nl1, nI_add], n + 1, upN q n w, by omega, ⟨by omega, by show (stI _ 44 4 (nI n + 1)).1 44 4 = _; rw [stI_at, if_pos rfl, if_pos rfl, nI_1], fun j hj => ?_, fun i j hij hj => ?_⟩, fun j hj => ?_, fun v hv h1 h2 => ?_, ?_, ?_, ((((K2.st (by decide)).st (by decide)).st (by decide)).st (by decide)).st (by decide)⟩
        · rw [upN_at]
          simp only [stI_at]
          by_cases e : j = n
          · simp [e, hw', ef, hmN]
          · obtain ⟨x1, x2, x3, x4, x5, x6⟩ := E2.2.2.1 j (by omega)
            simp [e, x1, x2, x3, x4, x5, x6]
        · rw [upN_at, upN_at]
          have := p4 i (by omega)
          by_cases e : j = n
          · rw [if_neg (by omega), if_pos e]; exact this
          · rw [if_neg (by omega), if_neg e]; exact E2.2.2.2 i j hij (by omega)
        · rw [upN_at]
          by_cases e : j = n
          · rw [if_pos e]; omega
          · rw [if_neg e]; have := p4 j (by omega); omega
        · by_cases e : v = w
          · exact ⟨n, by omega, by rw [upN_at, if_pos rfl, e]⟩
          · obtain ⟨j, j1, j2⟩ := p5 v (by omega) h1 h2
            exact ⟨j, by omega, by rw [upN_at, if_neg (by omega)]; exact j2⟩
        · show (stI _ 44 4 _).1 44 5 = _
          rw [stI_at, if_pos rfl, if_neg (by decide)]; exact h5
        · show (stI _ 44 4 _).1 44 6 = _
          rw [stI_at, if_pos rfl, if_neg (by decide)]; exact h6
