/-! evenings: sets of wrongs as numbers -/
def hmN (f : Fo) (w : Nat) : Nat := foH f (foT f w)
def cwN (f : Fo) (φ : Ph) (s : Sc) (w : Nat) : Nat := cnt f φ s w (hmN f w)
def smP (f : Fo) (φ : Ph) (s : Sc) (m : Nat) : Nat → Nat
  | 0 => 0
  | n + 1 => smP f φ s m n + (if m.testBit n then cwN f φ s n else 0)
def smW (f : Fo) (φ : Ph) (s : Sc) (m : Nat) : Nat := smP f φ s m (foW f)
def OkP (f : Fo) (s : Sc) (m n : Nat) : Prop := (∀ v, v < n → m.testBit v = true → scF s v = false) ∧ ∀ u v, u < v → v < n → m.testBit u = true → m.testBit v = true → foB f u ≠ foB f v ∧ hmN f u ≠ hmN f v
def LeE (f : Fo) (φ : Ph) (s : Sc) (a b : Nat) : Prop := smW f φ s a < smW f φ s b ∨ (smW f φ s a = smW f φ s b ∧ (pcN b 12 < pcN a 12 ∨ (pcN b 12 = pcN a 12 ∧ b ≤ a)))
theorem LeE.refl {f : Fo} {φ : Ph} {s : Sc} (a : Nat) : LeE f φ s a a := Or.inr ⟨rfl, Or.inr ⟨rfl, Nat.le_refl _⟩⟩
theorem LeE.trans {f : Fo} {φ : Ph} {s : Sc} {a b c : Nat} (h1 : LeE f φ s a b) (h2 : LeE f φ s b c) : LeE f φ s a c := by unfold LeE at *; omega
theorem LeE.anti {f : Fo} {φ : Ph} {s : Sc} {a b : Nat} (h1 : LeE f φ s a b) (h2 : LeE f φ s b a) : a = b := by unfold LeE at *; omega
def IsE (f : Fo) (φ : Ph) (s : Sc) (F : Nat) : Prop := F < 2 ^ foW f ∧ OkP f s F (foW f) ∧ ∀ m, m < 2 ^ foW f → OkP f s m (foW f) → LeE f φ s m F
theorem IsE.uniq {f : Fo} {φ : Ph} {s : Sc} {F G : Nat} (h1 : IsE f φ s F) (h2 : IsE f φ s G) : F = G := (h2.2.2 F h1.1 h1.2.1).anti (h1.2.2 G h2.1 h2.2.1)
theorem smP_le {f : Fo} {φ : Ph} {s : Sc} (hφ : PhOk φ) (m : Nat) : ∀ n, smP f φ s m n ≤ 9 * n
  | 0 => Nat.le_refl _
  | n + 1 => by
    have h1 := smP_le (f := f) (s := s) hφ m n
    have h2 : cwN f φ s n ≤ 9 := hφ _ _ _ _ _ _
    rw [smP]
    split <;> omega
theorem smP_same {f : Fo} {φ : Ph} {s : Sc} {m x : Nat} : ∀ n, (∀ j, j < n → m.testBit j = x.testBit j) → smP f φ s m n = smP f φ s x n
  | 0, _ => rfl
  | n + 1, h => by rw [smP, smP, smP_same n (fun j hj => h j (by omega)), h n (by omega)]
theorem smP_add {f : Fo} {φ : Ph} {s : Sc} {m x i : Nat} (hm : m.testBit i = true) (hx : x.testBit i = false) (he : ∀ j, j ≠ i → m.testBit j = x.testBit j) : ∀ n, i < n → smP f φ s m n = smP f φ s x n + cwN f φ s i
  | 0, h => absurd h (Nat.not_lt_zero _)
  | n + 1, h => by
    rw [smP, smP]
    by_cases q : i = n
    · subst q
      rw [smP_same i (fun j hj => he j (by omega)), hm, hx, if_pos rfl, if_neg (by decide)]
      omega
    · rw [smP_add hm hx he n (by omega), he n (fun e => q e.symm)]
      omega
theorem okP_zero (f : Fo) (s : Sc) (n : Nat) : OkP f s 0 n := ⟨fun v _ h => (by rw [Nat.zero_testBit] at h; cases h), fun u v _ _ h => (by rw [Nat.zero_testBit] at h; cases h)⟩
theorem okP_mono {f : Fo} {s : Sc} {m n k : Nat} (h : OkP f s m n) (hk : k ≤ n) : OkP f s m k := ⟨fun v hv => h.1 v (by omega), fun u v huv hv => h.2 u v huv (by omega)⟩
theorem and_pow {d i : Nat} : d &&& 2 ^ i = 0 ↔ d.testBit i = false := by
  constructor
  · intro h
    have h1 : (d &&& 2 ^ i).testBit i = false := by rw [h, Nat.zero_testBit]
    rw [Nat.testBit_and, Nat.testBit_two_pow] at h1
    simpa using h1
  · intro h
    refine Nat.eq_of_testBit_eq fun j => ?_
    rw [Nat.testBit_and, Nat.testBit_two_pow, Nat.zero_testBit]
    by_cases e : i = j
    · subst e; simp [h]
    · simp [e]
theorem or_tb {d i j : Nat} : (d ||| 2 ^ i).testBit j = (d.testBit j || decide (i = j)) := by rw [Nat.testBit_or, Nat.testBit_two_pow]
theorem or_lt {d i W : Nat} (hd : d < 2 ^ W) (hi : i < W) : d ||| 2 ^ i < 2 ^ W := Nat.lt_pow_two_of_testBit _ fun j hj => by
  rw [or_tb, Nat.testBit_lt_two_pow (Nat.lt_of_lt_of_le hd (Nat.pow_le_pow_right (by decide) hj))]
  simp; omega
/-- whose, of the set, the bits are -/
def BitsOf (g : Nat → Nat) (m n d : Nat) : Prop := d < 4096 ∧ ∀ a, d.testBit a = true ↔ ∃ v, v < n ∧ m.testBit v = true ∧ g v = a
theorem bits_zero (g : Nat → Nat) (m : Nat) : BitsOf g m 0 0 := ⟨by decide, fun a => ⟨fun h => (by rw [Nat.zero_testBit] at h; cases h), fun ⟨v, hv, _⟩ => absurd hv (Nat.not_lt_zero v)⟩⟩
theorem bits_skip {g : Nat → Nat} {m n d : Nat} (h : BitsOf g m n d) (hb : m.testBit n = false) : BitsOf g m (n + 1) d := by
  refine ⟨h.1, fun a => (h.2 a).trans ⟨fun ⟨v, h1, h2, h3⟩ => ⟨v, by omega, h2, h3⟩, fun ⟨v, h1, h2, h3⟩ => ⟨v, ?_, h2, h3⟩⟩⟩
  by_cases e : v = n
  · rw [e, hb] at h2; cases h2
  · omega
theorem bits_add {g : Nat → Nat} {m n d : Nat} (h : BitsOf g m n d) (hb : m.testBit n = true) (hg : g n < 12) : BitsOf g m (n + 1) (d ||| 2 ^ g n) := by
  refine ⟨or_lt (W := 12) h.1 hg, fun a => ?_⟩
  rw [or_tb, Bool.or_eq_true, h.2 a, decide_eq_true_eq]
  constructor
  · rintro (⟨v, h1, h2, h3⟩ | h1)
    · exact ⟨v, by omega, h2, h3⟩
    · exact ⟨n, by omega, hb, h1⟩
  · rintro ⟨v, h1, h2, h3⟩
    by_cases e : v = n
    · right; rw [← h3, e]
    · exact Or.inl ⟨v, by omega, h2, h3⟩
/-! the reference -/
theorem at1_m {f : Fo} {s : Sc} {φ : Ph} {h : Hp} (R : RM f s φ h) {m : Nat} (hm : m < 4096) : Ev (f_X8_atOnce (nI m) h) fun r => ((OkP f s m (foW f) ∧ r.1 = nI (smW f φ s m)) ∨ (¬ OkP f s m (foW f) ∧ r.1 = -1)) ∧ Kp [71, 72] h r.2 := by
  have ok := R.2.2.1
  have h10 := ok.1
  have h12 := ok.2.1
  have bd : ∀ x i, (nI x >>> (nI i &&& 31)) &&& 1 = (nI x >>> (nI i &&& 31)) &&& nI 1 := fun _ _ => rfl
  have sh1 : ∀ i, (1 : Int32) <<< (nI i &&& 31) = nI 1 <<< (nI i &&& 31) := fun _ => rfl
  unfold f_X8_atOnce
  refine ev_call (P := fun o : (Int32 × Int32 × Int32 × Int32 × Hp) ⊕ (Int32 × Hp) => Sum.elim (fun a : Int32 × Int32 × Int32 × Int32 × Hp => OkP f s m (foW f) ∧ a.2.2.1 = nI (smW f φ s m) ∧ Kp [71, 72] h a.2.2.2.2) (fun r : Int32 × Hp => ¬ OkP f s m (foW f) ∧ r.1 = -1 ∧ Kp [71, 72] h r.2) o) (ev_for (k := 0) (fun w (u : Int32 × Int32 × Int32 × Int32 × Hp) => u.2.2.2.1 = nI w ∧ OkP f s m w ∧ (∃ d, u.1 = nI d ∧ BitsOf (foB f) m w d) ∧ (∃ d, u.2.1 = nI d ∧ BitsOf (hmN f) m w d) ∧ u.2.2.1 = nI (smP f φ s m w) ∧ Kp [71, 72] h u.2.2.2.2) (foW f) (fun w u hw hu => ?_) ⟨rfl, ⟨fun v hv => absurd hv (Nat.not_lt_zero v), fun u v _ hv => absurd hv (Nat.not_lt_zero v)⟩, ⟨0, rfl, bits_zero _ _⟩, ⟨0, rfl, bits_zero _ _⟩, rfl, Kp.refl R.1⟩ (Nat.zero_le _) (by rw [FUe]; omega)) (fun o ho => ?_)
  · obtain ⟨y1, y2, y3, y4, g⟩ := u
    obtain ⟨p1, p2, ⟨d, p3, p4⟩, ⟨e, p5, p6⟩, p7, p8⟩ := hu
    simp only at p1 p3 p5 p7 p8
    subst p1 p3 p5 p7
    have F : FoM f g := R.2.2.2.2.1.kp p8 (by rw [p8.i 53 (by decide)]) (by rw [p8.i 53 (by decide)]) (by decide)
    have S : ScM (foW f) s g := R.2.2.2.2.2.1.kp p8 (by rw [p8.i 53 (by decide)]) (by decide)
    have L : LawM φ g := R.2.2.2.2.2.2.kp p8 (by rw [p8.i 53 (by decide)]) (by rw [p8.i 53 (by decide)]) (by decide)
    unfold b_X8_atOnce_10
    simp only
    rw [F.2.1]
    by_cases z : foW f ≤ w
    · have ew : w = foW f := by omega
      rw [if_pos (nI_le z (by omega))]
      rw [ew] at p2
      exact ev_some ⟨p2, by unfold smW; rw [ew], p8⟩
    · have hw' : w < foW f := by omega
      have a2 := ok.2.2.2 w hw'
      have hT := (ok.2.2.1 _ a2.2.1).1
      rw [if_neg (by rw [nI_leI (by omega) (by omega)]; exact z), bd, bit_rd hm (by omega)]
      cases eb : m.testBit w with
      | false =>
        rw [if_pos (by decide)]
        refine ev_some ⟨hw', by rw [nl1, nI_add], ⟨fun v hv hb => ?_, fun u v huv hv hu hb => ?_⟩, ⟨d, rfl, bits_skip p4 eb⟩, ⟨e, rfl, bits_skip p6 eb⟩, ?_, p8⟩
        · by_cases q : v = w
          · rw [q, eb] at hb; cases hb
          · exact p2.1 v (by omega) hb
        · by_cases q : v = w
          · rw [q, eb] at hb; cases hb
          · exact p2.2 u v huv (by omega) hu hb
        · show nI (smP f φ s m w) = nI (smP f φ s m (w + 1))
          rw [smP, eb, if_neg (by decide), Nat.add_zero]
      | true =>
        rw [if_neg (by decide), rd_58 (by omega), (F.2.2.2 w hw').2.1]
        simp only [Option.bind_some]
        rw [rd_55 (by omega), (F.2.2.1 _ a2.2.1).1]
        simp only [Option.bind_some]
        rw [rd_61 (by omega), S.2.2.1 w hw']
        simp only [Option.bind_some]
        cases ef : scF s w with
        | true =>
          rw [if_pos (show nI (bI true) = 1 from rfl)]
          exact ev_some ⟨fun hok => (by rw [hok.1 w hw' eb] at ef; cases ef), rfl, p8⟩
        | false =>
          rw [if_neg (by decide), rd_57 (by omega), (F.2.2.2 w hw').1]
          simp only [Option.bind_some]
          rw [bd, bit_rd p4.1 (by omega)]
          cases e1 : d.testBit (foB f w) with
          | true =>
            rw [if_pos (show nI (bI true) = 1 from rfl)]
            obtain ⟨v, v1, v2, v3⟩ := (p4.2 _).mp e1
            exact ev_some ⟨fun hok => (hok.2 v w v1 hw' v2 eb).1 v3, rfl, p8⟩
          | false =>
            rw [if_neg (by decide), bd, bit_rd p6.1 (by omega)]
            have e2' : ∀ b, e.testBit (foH f (foT f w)) = b → e.testBit (hmN f w) = b := fun b h => h
            cases e2 : e.testBit (foH f (foT f w)) with
            | true =>
              rw [if_pos (show nI (bI true) = 1 from rfl)]
              obtain ⟨v, v1, v2, v3⟩ := (p6.2 _).mp (e2' _ e2)
              exact ev_some ⟨fun hok => (hok.2 v w v1 hw' v2 eb).2 v3, rfl, p8⟩
            | false =>
              rw [if_neg (by decide)]
              refine ev_call (count_k p8.1 ok R.2.2.2.1 F S L hw' hT) (fun r hr => ?_)
              rw [sh1, sh1, bit_or p4.1 (show foB f w < 12 by omega), bit_or p6.1 hT, hr.1, nI_add]
              refine ev_some ⟨hw', by rw [nl1, nI_add], ⟨fun v hv hb => ?_, fun u v huv hv hu hb => ?_⟩, ⟨_, rfl, bits_add p4 eb (by omega)⟩, ⟨_, rfl, bits_add p6 eb hT⟩, ?_, p8.trans hr.2⟩
              · by_cases q : v = w
                · rw [q]; exact ef
                · exact p2.1 v (by omega) hb
              · by_cases q : v = w
                · subst q
                  refine ⟨fun h => ?_, fun h => ?_⟩
                  · rw [(p4.2 _).mpr ⟨u, huv, hu, h⟩] at e1; cases e1
                  · rw [show e.testBit (foH f (foT f v)) = true from (p6.2 _).mpr ⟨u, huv, hu, h⟩] at e2; cases e2
                · exact p2.2 u v huv (by omega) hu hb
              · show nI (smP f φ s m w + cnt f φ s w (foH f (foT f w))) = nI (smP f φ s m (w + 1))
                rw [smP, eb, if_pos rfl]; rfl
  · cases o with
    | inl a => exact ev_some ⟨Or.inl ⟨ho.1, ho.2.1⟩, ho.2.2⟩
    | inr a => exact ev_some ⟨Or.inr ⟨ho.1, ho.2.1⟩, ho.2.2⟩
theorem RM.k2 {f : Fo} {s : Sc} {φ : Ph} {h g : Hp} (R : RM f s φ h) (K : Kp [71, 72] h g) : RM f s φ g :=
  R.to (K.mono (by decide)) R.2.2.2.1 (R.2.2.2.2.2.1.kp K (by rw [K.i 53 (by decide)]) (by decide))
theorem eve_m {f : Fo} {s : Sc} {φ : Ph} {h : Hp} (R : RM f s φ h) {a1 : Int32} : Ev (iter (b_X8_evening_18 a1) FU (0, 0, 1, h)) fun u => ∃ F, u.1 = nI F ∧ u.2.1 = nI (smW f φ s F) ∧ IsE f φ s F ∧ Kp [71, 72] h u.2.2.2 := by
  have ok := R.2.2.1
  have h12 := ok.2.1
  have hpow : 2 ^ foW f ≤ 4096 := Nat.pow_le_pow_right (show 1 ≤ 2 by decide) h12
  have sle : ∀ m, smW f φ s m ≤ 108 := fun m => by have := smP_le (f := f) (s := s) R.2.1 m (foW f); unfold smW; omega
  refine ev_for (k := 1) (fun c (u : Int32 × Int32 × Int32 × Hp) => u.2.2.1 = nI c ∧ 1 ≤ c ∧ (∃ F, u.1 = nI F ∧ u.2.1 = nI (smW f φ s F) ∧ F < c ∧ OkP f s F (foW f) ∧ ∀ m, m < c → OkP f s m (foW f) → LeE f φ s m F) ∧ Kp [71, 72] h u.2.2.2) (2 ^ foW f) (fun c u hc hu => ?_) ⟨rfl, Nat.le_refl _, ⟨0, rfl, ?_, by decide, okP_zero _ _ _, fun m hm _ => ?_⟩, Kp.refl R.1⟩ (Nat.one_le_two_pow) (by rw [FUe]; omega)
  · obtain ⟨y1, y2, y3, g⟩ := u
    obtain ⟨p1, p2, ⟨F, p3, p4, p5, p6, p7⟩, p8⟩ := hu
    simp only at p1 p3 p4 p8
    subst p1 p3 p4
    have R1 := R.k2 p8
    unfold b_X8_evening_18
    simp only
    rw [R1.2.2.2.2.1.2.1, show (1 : Int32) <<< (nI (foW f) &&& 31) = nI (2 ^ foW f) from bit_one _ (by omega)]
    by_cases z : 2 ^ foW f ≤ c
    · have e : c = 2 ^ foW f := by omega
      rw [if_pos (nI_le z (by omega))]
      rw [e] at p5 p7
      exact ev_some ⟨F, rfl, rfl, ⟨p5, p6, p7⟩, p8⟩
    · rw [if_neg (by rw [nI_leI (by omega) (by omega)]; exact z)]
      refine ev_call (at1_m R1 (show c < 4096 by omega)) (fun r hr => ?_)
      obtain ⟨r1, r2⟩ := hr
      have l1 := sle F
      have l2 := sle c
      have keep : (OkP f s c (foW f) → LeE f φ s c F) → ∀ m, m < c + 1 → OkP f s m (foW f) → LeE f φ s m F := by
        intro hk m hm ho
        by_cases e : m = c
        · rw [e] at ho ⊢; exact hk ho
        · exact p7 m (by omega) ho
      rcases r1 with ⟨r1, r3⟩ | ⟨r1, r3⟩
      · have take : LeE f φ s F c → ∀ m, m < c + 1 → OkP f s m (foW f) → LeE f φ s m c := by
          intro hk m hm ho
          by_cases e : m = c
          · rw [e]; exact LeE.refl _
          · exact (p7 m (by omega) ho).trans hk
        rw [r3]
        by_cases c1 : smW f φ s c < smW f φ s F
        · rw [if_pos (nI_lt c1 (by omega))]
          exact ev_some ⟨by omega, by rw [nl1, nI_add], by omega, ⟨F, rfl, rfl, by omega, p6, keep (fun _ => Or.inl c1)⟩, p8.trans r2⟩
        · rw [if_neg (nI_nlt (by omega) (by omega))]
          by_cases c2 : smW f φ s c = smW f φ s F
          · have b1 := pc_le c 12
            have b2 := pc_le F 12
            rw [if_pos (by rw [c2]), bitc (show c < 4096 by omega), bitc (show F < 4096 by omega)]
            simp only [Option.bind_some]
            by_cases c3 : pcN c 12 < pcN F 12
            · rw [if_pos (nI_lt c3 (by omega))]
              exact ev_some ⟨by omega, by rw [nl1, nI_add], by omega, ⟨c, rfl, rfl, by omega, r1, take (by unfold LeE; omega)⟩, p8.trans r2⟩
            · rw [if_neg (nI_nlt (by omega) (by omega))]
              exact ev_some ⟨by omega, by rw [nl1, nI_add], by omega, ⟨F, rfl, rfl, by omega, p6, keep (fun _ => by unfold LeE; omega)⟩, p8.trans r2⟩
          · rw [if_neg (by rw [nI_eq (by omega) (by omega)]; exact c2)]
            exact ev_some ⟨by omega, by rw [nl1, nI_add], by omega, ⟨c, rfl, rfl, by omega, r1, take (by unfold LeE; omega)⟩, p8.trans r2⟩
      · rw [r3, if_pos (nI_gtm (by omega))]
        exact ev_some ⟨by omega, by rw [nl1, nI_add], by omega, ⟨F, rfl, rfl, by omega, p6, keep (fun ho => absurd ho r1)⟩, p8.trans r2⟩
  · have : smW f φ s 0 = 0 := by
      unfold smW
      generalize foW f = n
      induction n with
      | zero => rfl
      | succ n ih => rw [smP, ih, Nat.zero_testBit, if_neg (by decide)]
    rw [this]; rfl
  · have : m = 0 := by omega
    rw [this]; exact LeE.refl _
