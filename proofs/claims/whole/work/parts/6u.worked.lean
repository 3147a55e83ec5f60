/-! what a line is worth: the reference, and the law itself -/
def eN (a b c d e g : Nat) (i : Nat) : Int32 := if i = 0 then nI a else if i = 1 then nI b else if i = 2 then nI c else if i = 3 then nI d else if i = 4 then nI e else nI g
def phL (L : List Ln) (a b c d e g : Nat) : Nat := hn (valL (eN a b c d e g) L)
theorem phL_ok (L : List Ln) : PhOk (phL L) := fun _ _ _ _ _ _ => (hn_ok _).1
theorem okx_lines {L : List Ln} (h : ∀ l, l ∈ L → LnOk l) : ∀ c, c ∈ L.flatMap cX → OkX c := by
  intro c hc
  obtain ⟨l, l1, l2⟩ := List.mem_flatMap.mp hc
  obtain ⟨h1, _, h3⟩ := h l l1
  unfold cX cX0 at l2
  rcases List.mem_append.mp l2 with l2 | l2
  · by_cases e : l.1 = []
    · rw [if_pos e] at l2
      exact Or.inl (h3 c l2)
    · rw [if_neg e] at l2
      rcases List.mem_append.mp l2 with l2 | l2
      · rcases h1 with h1 | h1
        · exact absurd h1 e
        · exact Or.inl (h1.2 c l2)
      · rcases List.mem_cons.mp l2 with l2 | l2
        · exact Or.inr (Or.inl l2)
        · exact Or.inl (h3 c l2)
  · exact Or.inr (Or.inr (List.mem_singleton.mp l2))
theorem tell_x {h : Hp} (q : LR h) (a b c d e g : Nat) : Ev (f_X4_tell (nI a) (nI b) (nI c) (nI d) (nI e) (nI g) h) fun t => Kp [11] h t ∧ ∀ i, i < 6 → t.1 11 i = eN a b c d e g i := by
  unfold f_X4_tell
  rw [show (0 : Int32) = nI 0 from rfl, show (1 : Int32) = nI 1 from rfl, show (2 : Int32) = nI 2 from rfl, show (3 : Int32) = nI 3 from rfl, show (4 : Int32) = nI 4 from rfl, show (5 : Int32) = nI 5 from rfl]
  rw [wr_11 (by decide)]; simp only [Option.bind_some]
  rw [wr_11 (by decide)]; simp only [Option.bind_some]
  rw [wr_11 (by decide)]; simp only [Option.bind_some]
  rw [wr_11 (by decide)]; simp only [Option.bind_some]
  rw [wr_11 (by decide)]; simp only [Option.bind_some]
  rw [wr_11 (by decide)]; simp only [Option.bind_some]
  refine ev_some ⟨((((((Kp.refl q).st (by decide)).st (by decide)).st (by decide)).st (by decide)).st (by decide)).st (by decide), fun i hi => ?_⟩
  match i, hi with
  | 0, _ => rfl
  | 1, _ => rfl
  | 2, _ => rfl
  | 3, _ => rfl
  | 4, _ => rfl
  | 5, _ => rfl
theorem lawX_new {L : List Ln} {h0 : Hp} (q0 : LR h0) (hr : h0.2.2 7 2 ≠ h0.2.2 7 4) (ok : ∀ l, l ∈ L → LnOk l) (hne : L ≠ []) (hl : (L.flatMap cX).length ≤ 121) (h3 : h0.1 7 3 = nI (L.flatMap cX).length) (hR : ∀ i (hi : i < (L.flatMap cX).length), h0.1 (h0.2.2 7 2) i = tX (L.flatMap cX)[i]) : LawX (phL L) h0 := by
  refine ⟨hr, fun h q e3 e2 e9 e10 a b c d e g _ => ?_⟩
  have hpos : 0 < (L.flatMap cX).length := by
    cases L with
    | nil => exact absurd rfl hne
    | cons l L => rw [List.flatMap_cons, List.length_append]; unfold cX; rw [List.length_append]; simp only [List.length_cons, List.length_nil]; omega
  have hr2 : h.1 (h0.2.2 7 2) = h0.1 (h0.2.2 7 2) := by
    rcases q0.1 with z | z
    · rcases e9 with e9 | e9
      · rw [z] at e9; exact absurd e9 (by decide)
      · rw [z]; exact e9
    · rcases e10 with e10 | e10
      · rw [z] at e10; exact absurd e10 (by decide)
      · rw [z]; exact e10
  refine ev_call (tell_x q a b c d e g) (fun h7 hh => ?_)
  obtain ⟨K, hN⟩ := hh
  obtain ⟨t, t1, t2⟩ := workout_x (N := eN a b c d e g) (C := L.flatMap cX) K.1 hl hpos (okx_lines ok) (evX_lines _ L ok) (by rw [K.i 7 (by decide), e3, h3]) (fun i hi => by
    rw [K.r 7 (by decide), e2, K.i (h0.2.2 7 2) (by rcases q0.1 with z | z <;> rw [z] <;> decide), hr2]
    exact hR i hi) hN
  exact ⟨t, t1, t2.trans ((hn_ok _).2).symm⟩
def F71 (h g : Hp) : Prop := ∀ k, k ≠ 71 → g.1 k = h.1 k
theorem F71.st {h g : Hp} {j : Nat} {v : Int32} (F : F71 h g) : F71 h (stI g 71 j v) := fun k hk => (show (stI g 71 j v).1 k = g.1 k from if_neg hk).trans (F k hk)
theorem F71.trans {a b c : Hp} (F : F71 a b) (G : F71 b c) : F71 a c := fun k hk => (G k hk).trans (F k hk)
def PoM (N : Nat → Int32) (M : List Nat) (V : Int32) (h : Hp) (s0 : Nat) (k : Nat) (s : Int32 × Int32 × Hp) : Prop := s.2.1 = nI (s0 + k) ∧ ∃ st, s.1 = nI st.length ∧ st.length ≤ k ∧ runC N (M.drop k) st = some [V] ∧ Stk 71 s.2.2 st ∧ F71 h s.2.2
theorem worked_m {N : Nat → Int32} {M : List Nat} {h : Hp} {s0 e0 : Nat} (w : Wf M) (he : e0 = s0 + M.length) (hs : s0 + M.length ≤ 200) (hc : ∀ c, c ∈ M → c < 10018) (hR : ∀ i c, M[i]? = some c → h.1 66 (s0 + i) = nI c) (hN : ∀ i, i < 6 → h.1 72 i = N i) : Ev (f_X8_worked (nI s0) (nI e0) h) fun t => t.1 = valC N M ∧ F71 h t.2 := by
  subst he
  unfold f_X8_worked
  refine ev_call (P := fun a : Int32 × Int32 × Hp => a.2.2.1 71 0 = valC N M ∧ F71 h a.2.2) ?_ (fun a ha => ?_)
  · refine ev_for (k := 0) (PoM N M (valC N M) h s0) M.length (fun k s hk hs2 => ?_) ⟨rfl, [], rfl, by decide, val_wf w N [], True.intro, fun _ _ => rfl⟩ (by omega) (by rw [FUe]; omega)
    obtain ⟨top, i, g⟩ := s
    obtain ⟨p1, st, p2, p4, p5, p6, p7⟩ := hs2
    simp only at p1 p2 p6 p7
    subst p1 p2
    unfold b_X8_worked_5
    simp only
    by_cases e : M.length ≤ k
    · rw [if_pos (nI_le (by omega) (by omega))]
      rw [List.drop_of_length_le e] at p5
      cases p5
      exact ev_some ⟨p6.1, p7⟩
    rw [if_neg (by rw [nI_leI (by omega) (by omega)]; omega)]
    have hk2 : k < M.length := by omega
    have hgk : g.1 66 (s0 + k) = nI M[k] := by
      rw [p7 66 (by decide)]
      exact hR k M[k] (List.getElem?_eq_getElem hk2)
    rw [rd_66 (by omega), hgk]
    rw [List.drop_eq_getElem_cons hk2] at p5
    have hck := hc M[k] (List.getElem_mem hk2)
    generalize M[k] = c at p5 hck
    have p5' : (stp N c st).bind (runC N (M.drop (k + 1))) = some [valC N M] := p5
    simp only [Option.bind_some]
    have ek : nI (s0 + k) + 1 = nI (s0 + (k + 1)) := by rw [nl1, nI_add]; rfl
    have hst : st.length < 200 := by omega
    by_cases c18 : 18 ≤ c
    · rw [if_pos (show (18 : Int32) ≤ nI c from nI_le (a := 18) c18 (by omega))]
      unfold j_X8_worked_33
      rw [if_neg (show ¬ nI c < 18 by rw [show (18 : Int32) = nI 18 from rfl, nI_ltI (by omega) (by decide)]; omega), wr_71 hst, ek, show (18 : Int32) = nI 18 from rfl, nI_sub c18]
      rw [stp_num N c18] at p5'
      exact ev_some ⟨hk2, rfl, nI (c - 18) :: st, by rw [nl1, nI_add]; rfl, Nat.succ_le_succ p4, p5', stk_push p6, p7.st⟩
    rw [if_neg (show ¬ (18 : Int32) ≤ nI c by rw [show (18 : Int32) = nI 18 from rfl, nI_leI (by decide) (by omega)]; exact c18)]
    by_cases c6 : c < 6
    · rw [if_neg (show ¬ 5 < nI c by rw [nl5, nI_ltI (by decide) (by omega)]; omega)]
      unfold j_X8_worked_33
      rw [if_pos (show nI c < 18 by rw [show (18 : Int32) = nI 18 from rfl, nI_ltI (by omega) (by decide)]; omega), rd_72 c6]
      simp only [Option.bind_some]
      rw [p7 72 (by decide), hN c c6, wr_71 hst, ek]
      rw [stp_nm N c6] at p5'
      exact ev_some ⟨hk2, rfl, N c :: st, by rw [nl1, nI_add]; rfl, Nat.succ_le_succ p4, p5', stk_push p6, p7.st⟩
    rw [if_pos (show 5 < nI c by rw [nl5, nI_ltI (by decide) (by omega)]; omega)]
    cases st with
    | nil => rw [stp_nil N c6 c18] at p5'; cases p5'
    | cons v s =>
      obtain ⟨k1, k2⟩ := p6
      have hs : s.length < 200 := Nat.lt_of_succ_lt hst
      have etop : nI (v :: s).length - 1 = nI s.length := by rw [nl1, nI_sub (show 1 ≤ (v :: s).length from Nat.succ_le_succ (Nat.zero_le _))]; rfl
      have p4' : s.length + 1 ≤ k := p4
      by_cases e16 : c = 16
      · subst e16
        rw [stp_not] at p5'
        rw [if_pos (show nI 16 = 16 from rfl)]
        unfold j_X8_worked_81
        rw [if_neg (show ¬ nI 16 = 17 by decide), etop, rd_71 hs, k1, ek]
        simp only [Option.bind_some]
        by_cases ev : v = 0
        · rw [if_pos ev] at p5'
          rw [if_pos ev, wr_71 hs]
          exact ev_some ⟨hk2, rfl, 1 :: s, rfl, Nat.le_succ_of_le p4', p5', stk_push k2, p7.st⟩
        · rw [if_neg ev] at p5'
          rw [if_neg ev, wr_71 hs]
          exact ev_some ⟨hk2, rfl, 0 :: s, rfl, Nat.le_succ_of_le p4', p5', stk_push k2, p7.st⟩
      rw [if_neg (show ¬ nI c = 16 by rw [show (16 : Int32) = nI 16 from rfl, nI_eq (by omega) (by decide)]; exact e16)]
      by_cases e17 : c = 17
      · subst e17
        rw [stp_neg] at p5'
        rw [if_pos (show nI 17 = 17 from rfl)]
        unfold j_X8_worked_81
        rw [if_pos (show nI 17 = 17 from rfl), etop, rd_71 hs, k1, ek]
        simp only [Option.bind_some]
        rw [wr_71 hs]
        exact ev_some ⟨hk2, rfl, -v :: s, rfl, Nat.le_succ_of_le p4', p5', stk_push k2, p7.st⟩
      rw [if_neg (show ¬ nI c = 17 by rw [show (17 : Int32) = nI 17 from rfl, nI_eq (by omega) (by decide)]; exact e17)]
      have hb : 6 ≤ c ∧ c ≤ 15 := by omega
      cases s with
      | nil => rw [stp_bin1 N hb.1 hb.2] at p5'; cases p5'
      | cons x s2 =>
        obtain ⟨k3, k4⟩ := k2
        rw [stp_bin N hb.1 hb.2] at p5'
        have etop2 : nI (x :: s2).length - 1 = nI s2.length := by rw [nl1, nI_sub (show 1 ≤ (x :: s2).length from Nat.succ_le_succ (Nat.zero_le _))]; rfl
        have hs2 : s2.length < 200 := Nat.lt_of_succ_lt hs
        rw [etop, etop2, rd_71 hs2, k3, rd_71 hs, k1]
        simp only [Option.bind_some]
        rw [both_m x v c hb.1 hb.2]
        simp only [Option.bind_some]
        rw [wr_71 hs2, ek]
        have p4'' : s2.length + 1 + 1 ≤ k := p4
        exact ev_some ⟨hk2, rfl, bth c x v :: s2, rfl, by show s2.length + 1 ≤ k + 1; omega, p5', stk_push k4, p7.st⟩
  · rw [show (0 : Int32) = nI 0 from rfl, rd_71 (by decide)]
    exact ev_some ha
theorem flat_at {L : List Ln} {k : Nat} (hk : k < L.length) : L.flatMap cM = (L.take k).flatMap cM ++ (cM L[k] ++ (L.drop (k + 1)).flatMap cM) := by
  have e : L.flatMap cM = (L.take k ++ L.drop k).flatMap cM := by rw [List.take_append_drop]
  rw [e, List.flatMap_append, List.drop_eq_getElem_cons hk, List.flatMap_cons]
theorem flat_in {L : List Ln} {k : Nat} (hk : k < L.length) : offM L k + (cM L[k]).length ≤ (L.flatMap cM).length := by
  rw [flat_at hk, List.length_append, List.length_append]
  unfold offM
  omega
theorem flat_get {L : List Ln} {k i c : Nat} (hk : k < L.length) (h : (cM L[k])[i]? = some c) : (L.flatMap cM)[offM L k + i]? = some c := by
  have hi : i < (cM L[k]).length := by
    rcases List.getElem?_eq_some_iff.mp h with ⟨hi, _⟩
    exact hi
  rw [flat_at hk]
  unfold offM
  rw [List.getElem?_append_right (Nat.le_add_right _ _), Nat.add_sub_cancel_left, List.getElem?_append_left hi]
  exact h
theorem lawM_new {L : List Ln} {h0 : Hp} (h13 : h0.1 53 13 ≠ 0) (ok : ∀ l, l ∈ L → LnOk l) (S : SetM h0 L) : LawM (phL L) h0 := by
  refine Or.inr ⟨h13, fun h e14 e63 e64 e65 e66 a b c d e g _ n0 n1 n2 n3 n4 => ?_⟩
  obtain ⟨S1, S2, S3, S4, S5⟩ := S
  unfold j_X8_byLaw_89
  rw [nl5, wr_72 (by decide)]
  simp only [Option.bind_some]
  have hN : ∀ i, i < 6 → (stI h 72 5 (nI g)).1 72 i = eN a b c d e g i := by
    intro i hi
    match i, hi with
    | 0, _ => exact n0
    | 1, _ => exact n1
    | 2, _ => exact n2
    | 3, _ => exact n3
    | 4, _ => exact n4
    | 5, _ => rfl
  have e14' : (stI h 72 5 (nI g)).1 53 14 = nI L.length := by rw [stI_at, if_neg (by decide), e14, S1]
  have eI : IdxM 63 (stI h 72 5 (nI g)) L := fun i hi => by
    rw [stI_at, if_neg (by decide), stI_at, if_neg (by decide), stI_at, if_neg (by decide), e63]
    show _ ∧ h.1 64 i = _ ∧ h.1 65 i = _
    rw [e64, e65]
    exact S4 i hi
  have eC : ∀ i c, (L.flatMap cM)[i]? = some c → (stI h 72 5 (nI g)).1 66 i = nI c := fun i c hc => by
    obtain ⟨hi, hc⟩ := List.getElem?_eq_some_iff.mp hc
    rw [stI_at, if_neg (by decide), e66, S5 i hi, hc]
  generalize stI h 72 5 (nI g) = h1 at hN e14' eI eC
  generalize hV : valL (eN a b c d e g) L = V
  have fin : nI (phL L a b c d e g) = hld V := by
    unfold phL
    rw [(hn_ok _).2, hV]
  rw [fin]
  refine ev_call (P := fun r : (Int32 × Hp) ⊕ (Int32 × Hp) => (∃ a, r = .inl a ∧ V = 0) ∨ (∃ t, r = .inr t ∧ t.1 = V)) ?_ (fun r hr => ?_)
  · refine ev_for (k := 0) (fun k (s : Int32 × Hp) => s.1 = nI k ∧ valL (eN a b c d e g) (L.drop k) = V ∧ F71 h1 s.2) L.length (fun k s hk hs => ?_) ⟨rfl, hV, fun _ _ => rfl⟩ (by omega) (by rw [FUe]; omega)
    obtain ⟨x, t⟩ := s
    obtain ⟨s1, s2, s3⟩ := hs
    simp only at s1 s3
    subst s1
    unfold b_X8_byLaw_92
    simp only
    rw [s3 53 (by decide), e14']
    by_cases el : L.length ≤ k
    · rw [if_pos (nI_le el (by omega))]
      rw [List.drop_of_length_le el] at s2
      exact ev_some (Or.inl ⟨_, rfl, s2.symm⟩)
    rw [if_neg (by rw [nI_leI (by omega) (by omega)]; exact el)]
    have hk2 : k < L.length := by omega
    obtain ⟨i1, i2, i3⟩ := eI k hk2
    have i2' : h1.1 64 k = nI (offM L k + L[k].1.length) := i2
    have i3' : h1.1 65 k = nI (offM L k + (cM L[k]).length) := i3
    have hin := flat_in hk2
    have hcm : (cM L[k]).length = L[k].1.length + L[k].2.length := List.length_append
    obtain ⟨o1, o2, o3⟩ := ok L[k] (List.getElem_mem hk2)
    rw [List.drop_eq_getElem_cons hk2] at s2
    have s2' : (if L[k].1 = [] then valC (eN a b c d e g) L[k].2 else if valC (eN a b c d e g) L[k].1 = 0 then valL (eN a b c d e g) (L.drop (k + 1)) else valC (eN a b c d e g) L[k].2) = V := s2
    rw [rd_64 (by omega), s3 64 (by decide), i2']
    simp only [Option.bind_some]
    rw [rd_63 (by omega), s3 63 (by decide), i1]
    simp only [Option.bind_some]
    have says : ∀ t' : Hp, F71 h1 t' → valC (eN a b c d e g) L[k].2 = V → Ev (j_X8_byLaw_137 (nI k) t') (Sum.elim (fun t => k < L.length ∧ t.1 = nI (k + 1) ∧ valL (eN a b c d e g) (L.drop (k + 1)) = V ∧ F71 h1 t.2) fun r : (Int32 × Hp) ⊕ (Int32 × Hp) => (∃ a, r = .inl a ∧ V = 0) ∨ (∃ t, r = .inr t ∧ t.1 = V)) := by
      intro t' F' hv
      unfold j_X8_byLaw_137
      rw [rd_64 (by omega), F' 64 (by decide), i2']
      simp only [Option.bind_some]
      rw [rd_65 (by omega), F' 65 (by decide), i3']
      simp only [Option.bind_some]
      refine ev_call (worked_m (N := eN a b c d e g) (M := L[k].2) o2 (by rw [hcm]; omega) (by omega) o3 (fun i c hc => ?_) (fun i hi => by rw [F' 72 (by decide)]; exact hN i hi)) (fun u hu => ev_some (Or.inr ⟨_, rfl, hu.1.trans hv⟩))
      rw [F' 66 (by decide), Nat.add_assoc]
      refine eC _ c (flat_get hk2 ?_)
      unfold cM
      rw [List.getElem?_append_right (Nat.le_add_right _ _), Nat.add_sub_cancel_left]
      exact hc
    by_cases eA : L[k].1 = []
    · rw [if_pos eA] at s2'
      rw [if_pos (by rw [eA]; exact nI_le (Nat.le_refl _) (by omega))]
      exact says t s3 s2'
    · rw [if_neg eA] at s2'
      have hlen : 0 < L[k].1.length := List.length_pos_iff.mpr eA
      rw [if_neg (by rw [nI_leI (by omega) (by omega)]; omega)]
      rcases o1 with o1 | ⟨o1, o4⟩
      · exact absurd o1 eA
      refine ev_call (worked_m (N := eN a b c d e g) (M := L[k].1) o1 rfl (by omega) o4 (fun i c hc => ?_) (fun i hi => by rw [s3 72 (by decide)]; exact hN i hi)) (fun u hu => ?_)
      · rw [s3 66 (by decide)]
        refine eC _ c (flat_get hk2 ?_)
        unfold cM
        rw [List.getElem?_append_left (List.getElem?_eq_some_iff.mp hc).1]
        exact hc
      · obtain ⟨u1, u2⟩ := hu
        rw [u1]
        by_cases eV : valC (eN a b c d e g) L[k].1 = 0
        · rw [if_pos eV] at s2'
          rw [if_pos eV]
          exact ev_some ⟨hk2, by rw [nl1, nI_add], s2', s3.trans u2⟩
        · rw [if_neg eV] at s2'
          rw [if_neg eV]
          exact says u.2 (s3.trans u2) s2'
  · rcases hr with ⟨a, e, hv⟩ | ⟨t, e, ht⟩
    · subst e
      rw [hv]
      exact ev_some (show mxI 0 (mnI 9 0) = hld 0 by decide)
    · subst e
      refine ev_some ?_
      show mxI 0 (mnI 9 t.1) = hld V
      rw [held_m, ht]
