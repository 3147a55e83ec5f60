/-! acts: what each tells, and which bodies ran -/
theorem RelA.trc {f : Fo} {s : Sc} {φ : Ph} {b : Nat} {h h' : Hp} (R : RelA f s φ b h) (K : Kp [41, 43, 53, 78] h h') (e : ∀ j, j ≠ 39 → h'.1 53 j = h.1 53 j) (hd : Dor b h') : RelA f s φ b h' := by
  obtain ⟨⟨r1, r2, r3, r4⟩, ⟨r5, r6, r7, r8⟩, ⟨r9, r10⟩, r11, r12, r13, r14, r15, r16⟩ := R
  refine ⟨⟨K.1, r2, r3, r4⟩, ⟨r5.kp K (by decide), r6.kp K (e 1 (by decide)) (e 4 (by decide)) (by decide), r7.kp K (by decide) (by decide) (by decide), r8.kp K (e 10 (by decide)) (by decide)⟩, ⟨r9.kp K (by decide), r10.kp K (e 13 (by decide)) (e 14 (by decide)) (by decide)⟩, r11.eq (K.i _ (by decide)) (K.i _ (by decide)), r12.eq (by rw [K.i 7 (by decide)]) (e 11 (by decide)) (K.i _ (by decide)) (K.i _ (by decide)), r13.eq (K.i _ (by decide)) (K.i _ (by decide)) (K.i _ (by decide)) (K.i _ (by decide)) (K.i _ (by decide)) (K.i _ (by decide)) (K.i _ (by decide)) (e 30 (by decide)) (e 31 (by decide)) (K.i _ (by decide)), r14.eq (K.i _ (by decide)) (K.i _ (by decide)) (K.i _ (by decide)) (K.i _ (by decide)) (K.i _ (by decide)) (K.i _ (by decide)) (e 34 (by decide)) (e 35 (by decide)), ?_, hd⟩
  intro k hk
  have h1 := r15 k hk
  unfold ShAt at h1 ⊢
  rw [K.i 39 (by decide), K.i 79 (by decide), K.i 40 (by decide), K.l 81 (by decide), K.l (32 + k) (by simp; omega), K.i 38 (by decide), K.i 80 (by decide)]
  exact h1
def owL : List (List Nat) := [[0, 0, 0, 0], [1, 0, 0, 0], [0, 2, 0, 0], [0, 3, 3, 0], [1, 0, 4, 0], [0, 3, 3, 5], [6, 0, 0, 0], [1, 7, 4, 7]]
def ow (k d : Nat) : Nat := (owL.getD k []).getD d 0
def ownT (k d : Nat) : Int32 := tbF 93 (ow k d * 4 + d)
def abvT (k d : Nat) : Int32 := tbF 92 (ow k d)
def opP (b : Int32) (k : Nat) (x : Int32) : Int32 × List Int32 := match ow k 0 with
  | 1 => ((x + b) + 3, [20, 1])
  | 6 => ((x + b) * 2, [70, 1])
  | _ => (x + b, [1])
def slP (b : Int32) (K k : Nat) (x : Int32) : Int32 × List Int32 := match ow k 2 with
  | 3 => ((x ^^^ b) * 3, [40, 11])
  | 4 => ((x ^^^ b) - (opP b K 2).1, 50 :: 11 :: (opP b K 2).2)
  | _ => (x ^^^ b, [11])
def ct0 (b : Int32) (K : Nat) (x : Int32) : Int32 × List Int32 := ((opP b K x).1 * 2, 10 :: (opP b K x).2)
def ctP (b : Int32) (K k : Nat) (x : Int32) : Int32 × List Int32 := match ow k 1 with
  | 2 => (-(ct0 b K x).1, 30 :: (ct0 b K x).2)
  | 3 => (-(ct0 b K (x + 1)).1, 41 :: 30 :: (ct0 b K (x + 1)).2)
  | 7 => ((ct0 b K x).1 + (slP b K K 2).1, 80 :: ((ct0 b K x).2 ++ (slP b K K 2).2))
  | _ => ct0 b K x
def tl0 (b : Int32) (K : Nat) (x : Int32) : Int32 × List Int32 := ((ctP b K K x).1 - (slP b K K 1).1, 2 :: ((ctP b K K x).2 ++ (slP b K K 1).2))
def tlP (b : Int32) (K k : Nat) (x : Int32) : Int32 × List Int32 := match ow k 3 with
  | 5 => ((tl0 b K x).1 ^^^ 5, 60 :: (tl0 b K x).2)
  | 7 => ((tl0 b K x).1 - 1, 81 :: (tl0 b K x).2)
  | _ => tl0 b K x
theorem op_len (b : Int32) (k : Nat) (x : Int32) : (opP b k x).2.length ≤ 2 := by unfold opP; split <;> simp
theorem sl_len (b : Int32) (K k : Nat) (x : Int32) : (slP b K k x).2.length ≤ 4 := by
  have := op_len b K 2
  unfold slP; split
  · simp
  · show (opP b K 2).2.length + 1 + 1 ≤ 4; omega
  · simp
theorem ct0_len (b : Int32) (K : Nat) (x : Int32) : (ct0 b K x).2.length ≤ 3 := by
  have := op_len b K x
  show (opP b K x).2.length + 1 ≤ 3; omega
theorem ct_len (b : Int32) (K k : Nat) (x : Int32) : (ctP b K k x).2.length ≤ 8 := by
  have h1 := ct0_len b K x
  have h2 := ct0_len b K (x + 1)
  have h3 := sl_len b K K 2
  unfold ctP; split
  · show (ct0 b K x).2.length + 1 ≤ 8; omega
  · show (ct0 b K (x + 1)).2.length + 1 + 1 ≤ 8; omega
  · show ((ct0 b K x).2 ++ (slP b K K 2).2).length + 1 ≤ 8
    rw [List.length_append]; omega
  · omega
theorem tl0_len (b : Int32) (K : Nat) (x : Int32) : (tl0 b K x).2.length ≤ 13 := by
  have h1 := ct_len b K K x
  have h3 := sl_len b K K 1
  show ((ctP b K K x).2 ++ (slP b K K 1).2).length + 1 ≤ 13
  rw [List.length_append]; omega
theorem tl_len (b : Int32) (K k : Nat) (x : Int32) : (tlP b K k x).2.length ≤ 14 := by
  have h1 := tl0_len b K x
  unfold tlP; split
  · show (tl0 b K x).2.length + 1 ≤ 14; omega
  · show (tl0 b K x).2.length + 1 ≤ 14; omega
  · omega
/-! the trace, as both sides write it -/
def runX (v : Int32) (h : Hp) : Hp := stI (if 24 ≤ (h.1 41 3) then h else stI h 43 (h.1 41 3).toNatClampNeg v) 41 3 (h.1 41 3 + 1)
def trX : List Int32 → Hp → Hp
  | [], h => h
  | v :: L, h => trX L (runX v h)
def runM (v : Int32) (h : Hp) : Hp := stI (if 24 ≤ (h.1 53 39) then h else stI h 78 (h.1 53 39).toNatClampNeg v) 53 39 (h.1 53 39 + 1)
def trM : List Int32 → Hp → Hp
  | [], h => h
  | v :: L, h => trM L (runM v h)
theorem trX_app : ∀ (L L' : List Int32) (h : Hp), trX (L ++ L') h = trX L' (trX L h)
  | [], _, _ => rfl
  | v :: L, L', h => trX_app L L' (runX v h)
theorem trM_app : ∀ (L L' : List Int32) (h : Hp), trM (L ++ L') h = trM L' (trM L h)
  | [], _, _ => rfl
  | v :: L, L', h => trM_app L L' (runM v h)
def HX (b K t : Nat) (h : Hp) : Prop := h.1 41 4 = nI b ∧ h.1 41 5 = nI K ∧ h.1 41 3 = nI t
theorem runX_HX {b K t : Nat} {h : Hp} (H : HX b K t h) (v : Int32) : HX b K (t + 1) (runX v h) := by
  obtain ⟨h1, h2, h3⟩ := H
  unfold runX
  refine ⟨?_, ?_, ?_⟩
  · rw [stI_at, if_pos rfl, if_neg (by decide)]; split
    · exact h1
    · exact h1
  · rw [stI_at, if_pos rfl, if_neg (by decide)]; split
    · exact h2
    · exact h2
  · rw [stI_at, if_pos rfl, if_pos rfl, h3, nI_1]
theorem trX_HX {b K : Nat} : ∀ (L : List Int32) (t : Nat) (h : Hp), HX b K t h → HX b K (t + L.length) (trX L h)
  | [], _, _, H => H
  | v :: L, t, h, H => by
    have := trX_HX L (t + 1) _ (runX_HX H v)
    rw [show t + (v :: L).length = t + 1 + L.length by simp; omega]
    exact this
def HM (b K t : Nat) (h : Hp) : Prop := h.1 77 b = nI K ∧ h.1 53 39 = nI t
theorem runM_HM {b K t : Nat} {h : Hp} (H : HM b K t h) (v : Int32) : HM b K (t + 1) (runM v h) := by
  obtain ⟨h1, h3⟩ := H
  unfold runM
  refine ⟨?_, ?_⟩
  · rw [stI_at, if_neg (by decide)]; split
    · exact h1
    · exact h1
  · rw [stI_at, if_pos rfl, if_pos rfl, h3, nI_1]
theorem trM_HM {b K : Nat} : ∀ (L : List Int32) (t : Nat) (h : Hp), HM b K t h → HM b K (t + L.length) (trM L h)
  | [], _, _, H => H
  | v :: L, t, h, H => by
    have := trM_HM L (t + 1) _ (runM_HM H v)
    rw [show t + (v :: L).length = t + 1 + L.length by simp; omega]
    exact this
theorem ran_m {b K t : Nat} {h : Hp} (H : HM b K t h) (ht : t < 2000) (v : Int32) : f_X8_ran v h = some (runM v h) := by
  obtain ⟨h1, h3⟩ := H
  unfold f_X8_ran runM
  rw [h3]
  by_cases q : 24 ≤ t
  · rw [if_pos (by rw [nl24]; exact nI_le q (by omega)), if_pos (by rw [nl24]; exact nI_le q (by omega))]; rfl
  · rw [if_neg (by rw [nl24, nI_leI (by decide) (by omega)]; exact q), if_neg (by rw [nl24, nI_leI (by decide) (by omega)]; exact q), wr_78 (by omega), nI_clamp (by omega)]
    simp only [Option.bind_some, lt]
    rw [show (stI h 78 t v).1 53 39 = nI t from h3]
/-! the class's step: whose body, and it runs -/
def hz0 : Hp := (fun _ _ => 0, fun _ _ => 0, fun _ _ => 0)
theorem own_f0 : ∀ k, k < 8 → ∀ d, d < 4 → (iter (b_X1_from_6 (fun _ _ _ => none) (nI d) 0 0 hz0) FU (nI k, 0)).map (fun p => p.1) = some (nI (ow k d)) := by decide +kernel
theorem own_f {Rf : Nat → List Int32 → Hp → Option (Int32 × Hp)} {x y : Int32} {h : Hp} {k d : Nat} (hk : k < 8) (hd : d < 4) : ∃ p, iter (b_X1_from_6 Rf (nI d) x y h) FU (nI k, 0) = some p ∧ p.1 = nI (ow k d) := by
  have h1 := own_f0 k hk d hd
  have e : b_X1_from_6 Rf (nI d) x y h = b_X1_from_6 (fun _ _ _ => none) (nI d) 0 0 hz0 := rfl
  rw [e]
  generalize iter (b_X1_from_6 (fun _ _ _ => none) (nI d) 0 0 hz0) FU (nI k, 0) = o at h1 ⊢
  cases o with
  | none => cases h1
  | some p => exact ⟨p, rfl, by simpa using h1⟩
theorem own_t : ∀ k, k < 8 → ∀ d, d < 4 → f_X1_isKind (nI (ow k d)) = some 1 ∧ rdT 93 ((nI (ow k d) * 4) + nI d) = some (ownT k d) ∧ rdT 92 (nI (ow k d)) = some (abvT k d) := by decide +kernel
theorem step_x {F k d dep b K t : Nat} {x : Int32} {h : Hp} (hk : k < 8) (hd : d < 4) (hdep : dep ≤ 40) (H : HX b K t h) (ht : t < 2000) : fG_GF (F + 2) 0 [nI k, nI d, x, nI dep] h = m_X1_perBody (fG_GF F) (ownT k d) (abvT k d) x (nI (dep + 1)) (runX (ownT k d) h) := by
  show m_X1_from (fG_GF (F + 1)) (nI k) (nI d) x (nI dep) h = _
  unfold m_X1_from
  obtain ⟨p, p1, p2⟩ := own_f (Rf := fG_GF (F + 1)) (x := x) (y := nI dep) (h := h) hk hd
  obtain ⟨o1, o2, o3⟩ := own_t k hk d hd
  rw [p1]
  simp only [Option.bind_some]
  rw [p2]
  unfold j_X1_from_52
  rw [o1]
  simp only [Option.bind_some]
  rw [if_neg (by decide), if_pos (by rw [nl40]; exact nI_le hdep (by decide)), o2]
  simp only [Option.bind_some]
  have e3 := H.2.2
  have fin : ∀ g : Hp, g.1 41 3 = nI t → g = (if 24 ≤ (h.1 41 3) then h else stI h 43 (h.1 41 3).toNatClampNeg (ownT k d)) → j_X1_from_102 (fG_GF (F + 1)) x (nI dep) (nI (ow k d)) (ownT k d) g = m_X1_perBody (fG_GF F) (ownT k d) (abvT k d) x (nI (dep + 1)) (runX (ownT k d) h) := by
    intro g hg eg
    unfold j_X1_from_102
    rw [o3]
    simp only [Option.bind_some, lt]
    rw [hg, nl1, nI_add, nI_add]
    have er : runX (ownT k d) h = stI g 41 3 (nI (t + 1)) := by unfold runX; rw [← eg, e3, nI_1]
    rw [er]
    show (m_X1_perBody (fG_GF F) (ownT k d) (abvT k d) x (nI (dep + 1)) (stI g 41 3 (nI (t + 1)))).bind _ = _
    exact bsome _
  by_cases q : 24 ≤ t
  · have c : (24 : Int32) ≤ h.1 41 3 := by rw [e3, nl24]; exact nI_le q (by omega)
    rw [if_pos c]
    exact fin h e3 (by rw [if_pos c])
  · have c : ¬ (24 : Int32) ≤ h.1 41 3 := by rw [e3, nl24, nI_leI (by decide) (by omega)]; exact q
    rw [if_neg c, e3, wr_43 (by omega)]
    simp only [Option.bind_some]
    exact fin _ e3 (by rw [if_neg c, e3, nI_clamp (by omega)])
theorem own_0 {k d : Nat} {o : Nat} (h : ow k d = o) : ownT k d = tbF 93 (o * 4 + d) ∧ abvT k d = tbF 92 o := by unfold ownT abvT; rw [h]; exact ⟨rfl, rfl⟩
theorem op0X {F k dep b K t : Nat} {x : Int32} {h : Hp} (hk : k < 8) (ho : ow k 0 = 0) (hdep : dep ≤ 40) (H : HX b K t h) (ht : t < 2000) : fG_GF (F + 2) 0 [nI k, 0, x, nI dep] h = some (x + nI b, trX [1] h) := by
  have e := step_x (F := F) (x := x) hk (show 0 < 4 by decide) hdep H ht
  rw [(own_0 ho).1, (own_0 ho).2] at e
  refine Eq.trans e ?_
  show m_X1_perBody (fG_GF F) 1 (-1) x (nI (dep + 1)) (runX 1 h) = _
  unfold m_X1_perBody
  rw [if_pos rfl, (runX_HX H 1).1]
  rfl
theorem opX {F k dep b K t : Nat} {x : Int32} {h : Hp} (hk : k < 8) (hdep : dep ≤ 39) (H : HX b K t h) (ht : t < 1999) : fG_GF (F + 4) 0 [nI k, 0, x, nI dep] h = some ((opP (nI b) k x).1, trX (opP (nI b) k x).2 h) := by
  have ho : ∀ k, k < 8 → ow k 0 = 0 ∨ ow k 0 = 1 ∨ ow k 0 = 6 := by decide
  rcases ho k hk with ho | ho | ho
  · rw [show opP (nI b) k x = (x + nI b, [1]) by unfold opP; rw [ho]; rfl]
    exact op0X (F := F + 2) hk ho (by omega) H (by omega)
  · rw [show opP (nI b) k x = ((x + nI b) + 3, [20, 1]) by unfold opP; rw [ho]; rfl]
    have e := step_x (F := F + 2) (x := x) hk (show 0 < 4 by decide) (show dep ≤ 40 by omega) H (by omega)
    rw [(own_0 ho).1, (own_0 ho).2] at e
    refine Eq.trans e ?_
    show m_X1_perBody (fG_GF (F + 2)) 20 0 x (nI (dep + 1)) (runX 20 h) = _
    unfold m_X1_perBody
    rw [if_neg (by decide), if_neg (by decide), if_neg (by decide), if_neg (by decide), if_pos rfl]
    have i := op0X (F := F) (k := 0) (dep := dep + 1) (x := x) (by decide) rfl (by omega) (runX_HX H 20) (by omega)
    rw [show fG_GF (F + 2) 0 [0, 0, x, nI (dep + 1)] (runX 20 h) = _ from i]
    rfl
  · rw [show opP (nI b) k x = ((x + nI b) * 2, [70, 1]) by unfold opP; rw [ho]; rfl]
    have e := step_x (F := F + 2) (x := x) hk (show 0 < 4 by decide) (show dep ≤ 40 by omega) H (by omega)
    rw [(own_0 ho).1, (own_0 ho).2] at e
    refine Eq.trans e ?_
    show m_X1_perBody (fG_GF (F + 2)) 70 0 x (nI (dep + 1)) (runX 70 h) = _
    unfold m_X1_perBody
    rw [if_neg (by decide), if_neg (by decide), if_neg (by decide), if_neg (by decide), if_neg (by decide), if_neg (by decide), if_neg (by decide), if_neg (by decide), if_neg (by decide), if_neg (by decide), if_pos rfl]
    have i := op0X (F := F) (k := 0) (dep := dep + 1) (x := x) (by decide) rfl (by omega) (runX_HX H 70) (by omega)
    rw [show fG_GF (F + 2) 0 [0, 0, x, nI (dep + 1)] (runX 70 h) = _ from i]
    rfl
theorem sl0X {F k dep b K t : Nat} {x : Int32} {h : Hp} (hk : k < 8) (ho : ow k 2 = 0) (hdep : dep ≤ 40) (H : HX b K t h) (ht : t < 2000) : fG_GF (F + 2) 0 [nI k, 2, x, nI dep] h = some (x ^^^ nI b, trX [11] h) := by
  have e := step_x (F := F) (x := x) hk (show 2 < 4 by decide) hdep H ht
  rw [(own_0 ho).1, (own_0 ho).2] at e
  refine Eq.trans e ?_
  show m_X1_perBody (fG_GF F) 11 (-1) x (nI (dep + 1)) (runX 11 h) = _
  unfold m_X1_perBody
  rw [if_neg (by decide), if_neg (by decide), if_neg (by decide), if_pos rfl, (runX_HX H 11).1]
  rfl
theorem slX {F k dep b K t : Nat} {x : Int32} {h : Hp} (hk : k < 8) (hK : K < 8) (hdep : dep ≤ 38) (H : HX b K t h) (ht : t < 1990) : fG_GF (F + 6) 0 [nI k, 2, x, nI dep] h = some ((slP (nI b) K k x).1, trX (slP (nI b) K k x).2 h) := by
  have ho : ∀ k, k < 8 → ow k 2 = 0 ∨ ow k 2 = 3 ∨ ow k 2 = 4 := by decide
  rcases ho k hk with ho | ho | ho
  · rw [show slP (nI b) K k x = (x ^^^ nI b, [11]) by unfold slP; rw [ho]; rfl]
    exact sl0X (F := F + 4) hk ho (by omega) H (by omega)
  · rw [show slP (nI b) K k x = ((x ^^^ nI b) * 3, [40, 11]) by unfold slP; rw [ho]; rfl]
    have e := step_x (F := F + 4) (x := x) hk (show 2 < 4 by decide) (show dep ≤ 40 by omega) H (by omega)
    rw [(own_0 ho).1, (own_0 ho).2] at e
    refine Eq.trans e ?_
    show m_X1_perBody (fG_GF (F + 4)) 40 2 x (nI (dep + 1)) (runX 40 h) = _
    unfold m_X1_perBody
    rw [if_neg (by decide), if_neg (by decide), if_neg (by decide), if_neg (by decide), if_neg (by decide), if_neg (by decide), if_pos rfl]
    have i := sl0X (F := F + 2) (k := 2) (dep := dep + 1) (x := x) (by decide) rfl (by omega) (runX_HX H 40) (by omega)
    rw [show fG_GF (F + 4) 0 [2, 2, x, nI (dep + 1)] (runX 40 h) = _ from i]
    rfl
  · rw [show slP (nI b) K k x = ((x ^^^ nI b) - (opP (nI b) K 2).1, 50 :: 11 :: (opP (nI b) K 2).2) by unfold slP; rw [ho]; rfl]
    have e := step_x (F := F + 4) (x := x) hk (show 2 < 4 by decide) (show dep ≤ 40 by omega) H (by omega)
    rw [(own_0 ho).1, (own_0 ho).2] at e
    refine Eq.trans e ?_
    show m_X1_perBody (fG_GF (F + 4)) 50 1 x (nI (dep + 1)) (runX 50 h) = _
    unfold m_X1_perBody
    rw [if_neg (by decide), if_neg (by decide), if_neg (by decide), if_neg (by decide), if_neg (by decide), if_neg (by decide), if_neg (by decide), if_neg (by decide), if_pos rfl]
    have i := sl0X (F := F + 2) (k := 1) (dep := dep + 1) (x := x) (by decide) rfl (by omega) (runX_HX H 50) (by omega)
    rw [show fG_GF (F + 4) 0 [1, 2, x, nI (dep + 1)] (runX 50 h) = _ from i]
    simp only [Option.bind_some]
    have H2 : HX b K (t + 1 + 1) (trX [11] (runX 50 h)) := runX_HX (runX_HX H 50) 11
    rw [H2.2.1]
    have i2 := opX (F := F) (k := K) (dep := dep + 1) (x := 2) hK (by omega) H2 (by omega)
    rw [i2]
    rfl
theorem ct0X {F k dep b K t : Nat} {x : Int32} {h : Hp} (hk : k < 8) (hK : K < 8) (ho : ow k 1 = 0) (hdep : dep ≤ 38) (H : HX b K t h) (ht : t < 1990) : fG_GF (F + 6) 0 [nI k, 1, x, nI dep] h = some ((ct0 (nI b) K x).1, trX (ct0 (nI b) K x).2 h) := by
  have e := step_x (F := F + 4) (x := x) hk (show 1 < 4 by decide) (show dep ≤ 40 by omega) H (by omega)
  rw [(own_0 ho).1, (own_0 ho).2] at e
  refine Eq.trans e ?_
  show m_X1_perBody (fG_GF (F + 4)) 10 (-1) x (nI (dep + 1)) (runX 10 h) = _
  unfold m_X1_perBody
  rw [if_neg (by decide), if_neg (by decide), if_pos rfl, (runX_HX H 10).2.1]
  have i2 := opX (F := F) (k := K) (dep := dep + 1) (x := x) hK (by omega) (runX_HX H 10) (by omega)
  rw [i2]
  rfl
theorem ctX {F k dep b K t : Nat} {x : Int32} {h : Hp} (hk : k < 8) (hK : K < 8) (hdep : dep ≤ 35) (H : HX b K t h) (ht : t < 1980) : fG_GF (F + 10) 0 [nI k, 1, x, nI dep] h = some ((ctP (nI b) K k x).1, trX (ctP (nI b) K k x).2 h) := by
  have ho : ∀ k, k < 8 → ow k 1 = 0 ∨ ow k 1 = 2 ∨ ow k 1 = 3 ∨ ow k 1 = 7 := by decide
  have two : ∀ (G dep' : Nat) (y : Int32) (g : Hp) (t' : Nat), dep' ≤ 37 → t' < 1985 → HX b K t' g → ∀ k', k' < 8 → ow k' 1 = 2 → fG_GF (G + 8) 0 [nI k', 1, y, nI dep'] g = some (-(ct0 (nI b) K y).1, trX (30 :: (ct0 (nI b) K y).2) g) := by
    intro G dep' y g t' h1 h2 H' k' hk' ho'
    have e := step_x (F := G + 6) (x := y) hk' (show 1 < 4 by decide) (show dep' ≤ 40 by omega) H' (by omega)
    rw [(own_0 ho').1, (own_0 ho').2] at e
    refine Eq.trans e ?_
    show m_X1_perBody (fG_GF (G + 6)) 30 0 y (nI (dep' + 1)) (runX 30 g) = _
    unfold m_X1_perBody
    rw [if_neg (by decide), if_neg (by decide), if_neg (by decide), if_neg (by decide), if_neg (by decide), if_pos rfl]
    have i := ct0X (F := G) (k := 0) (dep := dep' + 1) (x := y) (by decide) hK rfl (by omega) (runX_HX H' 30) (by omega)
    rw [show fG_GF (G + 6) 0 [0, 1, y, nI (dep' + 1)] (runX 30 g) = _ from i]
    rfl
  rcases ho k hk with ho | ho | ho | ho
  · rw [show ctP (nI b) K k x = ct0 (nI b) K x by unfold ctP; rw [ho]; rfl]
    exact ct0X (F := F + 4) hk hK ho (by omega) H (by omega)
  · rw [show ctP (nI b) K k x = (-(ct0 (nI b) K x).1, 30 :: (ct0 (nI b) K x).2) by unfold ctP; rw [ho]; rfl]
    exact two (F + 2) dep x h t (by omega) (by omega) H k hk ho
  · rw [show ctP (nI b) K k x = (-(ct0 (nI b) K (x + 1)).1, 41 :: 30 :: (ct0 (nI b) K (x + 1)).2) by unfold ctP; rw [ho]; rfl]
    have e := step_x (F := F + 8) (x := x) hk (show 1 < 4 by decide) (show dep ≤ 40 by omega) H (by omega)
    rw [(own_0 ho).1, (own_0 ho).2] at e
    refine Eq.trans e ?_
    show m_X1_perBody (fG_GF (F + 8)) 41 2 x (nI (dep + 1)) (runX 41 h) = _
    unfold m_X1_perBody
    rw [if_neg (by decide), if_neg (by decide), if_neg (by decide), if_neg (by decide), if_neg (by decide), if_neg (by decide), if_neg (by decide), if_pos rfl]
    have i := two F (dep + 1) (x + 1) (runX 41 h) (t + 1) (by omega) (by omega) (runX_HX H 41) 2 (by decide) rfl
    rw [show fG_GF (F + 8) 0 [2, 1, x + 1, nI (dep + 1)] (runX 41 h) = _ from i]
    rfl
  · rw [show ctP (nI b) K k x = ((ct0 (nI b) K x).1 + (slP (nI b) K K 2).1, 80 :: ((ct0 (nI b) K x).2 ++ (slP (nI b) K K 2).2)) by unfold ctP; rw [ho]; rfl]
    have e := step_x (F := F + 8) (x := x) hk (show 1 < 4 by decide) (show dep ≤ 40 by omega) H (by omega)
    rw [(own_0 ho).1, (own_0 ho).2] at e
    refine Eq.trans e ?_
    show m_X1_perBody (fG_GF (F + 8)) 80 4 x (nI (dep + 1)) (runX 80 h) = _
    unfold m_X1_perBody
    rw [if_neg (by decide), if_neg (by decide), if_neg (by decide), if_neg (by decide), if_neg (by decide), if_neg (by decide), if_neg (by decide), if_neg (by decide), if_neg (by decide), if_neg (by decide), if_neg (by decide), if_pos rfl]
    have i := ct0X (F := F + 2) (k := 4) (dep := dep + 1) (x := x) (by decide) hK rfl (by omega) (runX_HX H 80) (by omega)
    rw [show fG_GF (F + 8) 0 [4, 1, x, nI (dep + 1)] (runX 80 h) = _ from i]
    simp only [Option.bind_some]
    have ll := ct0_len (nI b) K x
    have H2 := trX_HX (ct0 (nI b) K x).2 (t + 1) _ (runX_HX H 80)
    rw [H2.2.1]
    have i2 := slX (F := F + 2) (k := K) (dep := dep + 1) (x := 2) hK hK (by omega) H2 (by omega)
    rw [show fG_GF (F + 8) 0 [nI K, 2, 2, nI (dep + 1)] (trX (ct0 (nI b) K x).2 (runX 80 h)) = _ from i2]
    simp only [Option.bind_some]
    show _ = some (_, trX ((ct0 (nI b) K x).2 ++ (slP (nI b) K K 2).2) (runX 80 h))
    rw [trX_app]
theorem tl0X {F k dep b K t : Nat} {x : Int32} {h : Hp} (hk : k < 8) (hK : K < 8) (ho : ow k 3 = 0) (hdep : dep ≤ 34) (H : HX b K t h) (ht : t < 1960) : fG_GF (F + 12) 0 [nI k, 3, x, nI dep] h = some ((tl0 (nI b) K x).1, trX (tl0 (nI b) K x).2 h) := by
  have e := step_x (F := F + 10) (x := x) hk (show 3 < 4 by decide) (show dep ≤ 40 by omega) H (by omega)
  rw [(own_0 ho).1, (own_0 ho).2] at e
  refine Eq.trans e ?_
  show m_X1_perBody (fG_GF (F + 10)) 2 (-1) x (nI (dep + 1)) (runX 2 h) = _
  unfold m_X1_perBody
  rw [if_neg (by decide), if_pos rfl, (runX_HX H 2).2.1]
  have i := ctX (F := F) (k := K) (dep := dep + 1) (x := x) hK hK (by omega) (runX_HX H 2) (by omega)
  rw [i]
  simp only [Option.bind_some]
  have ll := ct_len (nI b) K K x
  have H2 := trX_HX (ctP (nI b) K K x).2 (t + 1) _ (runX_HX H 2)
  rw [H2.2.1]
  have i2 := slX (F := F + 4) (k := K) (dep := dep + 1) (x := 1) hK hK (by omega) H2 (by omega)
  rw [show fG_GF (F + 10) 0 [nI K, 2, 1, nI (dep + 1)] (trX (ctP (nI b) K K x).2 (runX 2 h)) = _ from i2]
  simp only [Option.bind_some]
  show _ = some (_, trX ((ctP (nI b) K K x).2 ++ (slP (nI b) K K 1).2) (runX 2 h))
  rw [trX_app]
  rfl
theorem tlX {F k dep b K t : Nat} {x : Int32} {h : Hp} (hk : k < 8) (hK : K < 8) (hdep : dep ≤ 33) (H : HX b K t h) (ht : t < 1950) : fG_GF (F + 14) 0 [nI k, 3, x, nI dep] h = some ((tlP (nI b) K k x).1, trX (tlP (nI b) K k x).2 h) := by
  have ho : ∀ k, k < 8 → ow k 3 = 0 ∨ ow k 3 = 5 ∨ ow k 3 = 7 := by decide
  rcases ho k hk with ho | ho | ho
  · rw [show tlP (nI b) K k x = tl0 (nI b) K x by unfold tlP; rw [ho]; rfl]
    exact tl0X (F := F + 2) hk hK ho (by omega) H (by omega)
  · rw [show tlP (nI b) K k x = ((tl0 (nI b) K x).1 ^^^ 5, 60 :: (tl0 (nI b) K x).2) by unfold tlP; rw [ho]; rfl]
    have e := step_x (F := F + 12) (x := x) hk (show 3 < 4 by decide) (show dep ≤ 40 by omega) H (by omega)
    rw [(own_0 ho).1, (own_0 ho).2] at e
    refine Eq.trans e ?_
    show m_X1_perBody (fG_GF (F + 12)) 60 3 x (nI (dep + 1)) (runX 60 h) = _
    unfold m_X1_perBody
    rw [if_neg (by decide), if_neg (by decide), if_neg (by decide), if_neg (by decide), if_neg (by decide), if_neg (by decide), if_neg (by decide), if_neg (by decide), if_neg (by decide), if_pos rfl]
    have i := tl0X (F := F) (k := 3) (dep := dep + 1) (x := x) (by decide) hK rfl (by omega) (runX_HX H 60) (by omega)
    rw [show fG_GF (F + 12) 0 [3, 3, x, nI (dep + 1)] (runX 60 h) = _ from i]
    rfl
  · rw [show tlP (nI b) K k x = ((tl0 (nI b) K x).1 - 1, 81 :: (tl0 (nI b) K x).2) by unfold tlP; rw [ho]; rfl]
    have e := step_x (F := F + 12) (x := x) hk (show 3 < 4 by decide) (show dep ≤ 40 by omega) H (by omega)
    rw [(own_0 ho).1, (own_0 ho).2] at e
    refine Eq.trans e ?_
    show m_X1_perBody (fG_GF (F + 12)) 81 4 x (nI (dep + 1)) (runX 81 h) = _
    unfold m_X1_perBody
    rw [if_neg (by decide), if_neg (by decide), if_neg (by decide), if_neg (by decide), if_neg (by decide), if_neg (by decide), if_neg (by decide), if_neg (by decide), if_neg (by decide), if_neg (by decide), if_neg (by decide), if_neg (by decide)]
    have i := tl0X (F := F) (k := 4) (dep := dep + 1) (x := x) (by decide) hK rfl (by omega) (runX_HX H 81) (by omega)
    rw [show fG_GF (F + 12) 0 [4, 3, x, nI (dep + 1)] (runX 81 h) = _ from i]
    rfl

theorem opM_0 {F b K t : Nat} {x : Int32} {h : Hp} (H : HM b K t h) (ht : t < 1999) : fG_GO (F + 1) 0 [nI b, nI 0, x] h = some ((opP (nI b) 0 x).1, trM (opP (nI b) 0 x).2 h) := by
  show m_X8_opensBy (fG_GO F) (nI b) (nI 0) x h = _
  unfold m_X8_opensBy
  rw [if_pos (by decide), ran_m H (by omega)]
  rfl
theorem opM_1 {F b K t : Nat} {x : Int32} {h : Hp} (H : HM b K t h) (ht : t < 1998) : fG_GO (F + 2) 0 [nI b, nI 1, x] h = some ((opP (nI b) 1 x).1, trM (opP (nI b) 1 x).2 h) := by
  show m_X8_opensBy (fG_GO (F + 1)) (nI b) (nI 1) x h = _
  unfold m_X8_opensBy
  rw [if_neg (by decide), if_pos (by decide), ran_m H (by omega)]
  simp only [Option.bind_some]
  rw [show fG_GO (F + 1) 0 [nI b, 0, x] (runM 20 h) = _ from opM_0 (runM_HM H 20) (by omega)]
  rfl
theorem opM_6 {F b K t : Nat} {x : Int32} {h : Hp} (H : HM b K t h) (ht : t < 1998) : fG_GO (F + 2) 0 [nI b, nI 6, x] h = some ((opP (nI b) 6 x).1, trM (opP (nI b) 6 x).2 h) := by
  show m_X8_opensBy (fG_GO (F + 1)) (nI b) (nI 6) x h = _
  unfold m_X8_opensBy
  rw [if_neg (by decide), if_neg (by decide), if_pos (by decide), ran_m H (by omega)]
  simp only [Option.bind_some]
  rw [show fG_GO (F + 1) 0 [nI b, 0, x] (runM 70 h) = _ from opM_0 (runM_HM H 70) (by omega)]
  rfl
theorem opM_2 {F b K t : Nat} {x : Int32} {h : Hp} (H : HM b K t h) (ht : t < 1998) : fG_GO (F + 2) 0 [nI b, nI 2, x] h = some ((opP (nI b) 2 x).1, trM (opP (nI b) 2 x).2 h) := by
  show m_X8_opensBy (fG_GO (F + 1)) (nI b) (nI 2) x h = _
  unfold m_X8_opensBy
  rw [if_neg (by decide), if_neg (by decide), if_neg (by decide), show f_X8_above (nI 2) = some (nI 0) by decide]
  simp only [Option.bind_some]
  rw [opM_0 H (by omega)]
  rfl
theorem opM_3 {F b K t : Nat} {x : Int32} {h : Hp} (H : HM b K t h) (ht : t < 1998) : fG_GO (F + 3) 0 [nI b, nI 3, x] h = some ((opP (nI b) 3 x).1, trM (opP (nI b) 3 x).2 h) := by
  show m_X8_opensBy (fG_GO (F + 2)) (nI b) (nI 3) x h = _
  unfold m_X8_opensBy
  rw [if_neg (by decide), if_neg (by decide), if_neg (by decide), show f_X8_above (nI 3) = some (nI 2) by decide]
  simp only [Option.bind_some]
  rw [opM_2 H (by omega)]
  rfl
theorem opM_4 {F b K t : Nat} {x : Int32} {h : Hp} (H : HM b K t h) (ht : t < 1998) : fG_GO (F + 3) 0 [nI b, nI 4, x] h = some ((opP (nI b) 4 x).1, trM (opP (nI b) 4 x).2 h) := by
  show m_X8_opensBy (fG_GO (F + 2)) (nI b) (nI 4) x h = _
  unfold m_X8_opensBy
  rw [if_neg (by decide), if_neg (by decide), if_neg (by decide), show f_X8_above (nI 4) = some (nI 1) by decide]
  simp only [Option.bind_some]
  rw [opM_1 H (by omega)]
  rfl
theorem opM_5 {F b K t : Nat} {x : Int32} {h : Hp} (H : HM b K t h) (ht : t < 1998) : fG_GO (F + 4) 0 [nI b, nI 5, x] h = some ((opP (nI b) 5 x).1, trM (opP (nI b) 5 x).2 h) := by
  show m_X8_opensBy (fG_GO (F + 3)) (nI b) (nI 5) x h = _
  unfold m_X8_opensBy
  rw [if_neg (by decide), if_neg (by decide), if_neg (by decide), show f_X8_above (nI 5) = some (nI 3) by decide]
  simp only [Option.bind_some]
  rw [opM_3 H (by omega)]
  rfl
theorem opM_7 {F b K t : Nat} {x : Int32} {h : Hp} (H : HM b K t h) (ht : t < 1998) : fG_GO (F + 4) 0 [nI b, nI 7, x] h = some ((opP (nI b) 7 x).1, trM (opP (nI b) 7 x).2 h) := by
  show m_X8_opensBy (fG_GO (F + 3)) (nI b) (nI 7) x h = _
  unfold m_X8_opensBy
  rw [if_neg (by decide), if_neg (by decide), if_neg (by decide), show f_X8_above (nI 7) = some (nI 4) by decide]
  simp only [Option.bind_some]
  rw [opM_4 H (by omega)]
  rfl
theorem opM {b K k t : Nat} {x : Int32} {h : Hp} (hk : k < 8) (H : HM b K t h) (ht : t < 1998) : f_X8_opensBy (nI b) (nI k) x h = some ((opP (nI b) k x).1, trM (opP (nI b) k x).2 h) := by
  match k, hk with
  | 0, _ => exact opM_0 (F := 9) H (by omega)
  | 1, _ => exact opM_1 (F := 8) H (by omega)
  | 2, _ => exact opM_2 (F := 8) H (by omega)
  | 3, _ => exact opM_3 (F := 7) H (by omega)
  | 4, _ => exact opM_4 (F := 7) H (by omega)
  | 5, _ => exact opM_5 (F := 6) H (by omega)
  | 6, _ => exact opM_6 (F := 8) H (by omega)
  | 7, _ => exact opM_7 (F := 6) H (by omega)

theorem slM_0 {F b K t : Nat} {x : Int32} {h : Hp} (hK : K < 8) (H : HM b K t h) (hb : b < 50) (ht : t < 1990 - 1) : fG_GS (F + 1) 0 [nI b, nI 0, x] h = some ((slP (nI b) K 0 x).1, trM (slP (nI b) K 0 x).2 h) := by
  show m_X8_slamsBy (fG_GS F) (nI b) (nI 0) x h = _
  unfold m_X8_slamsBy
  rw [if_pos (by decide), ran_m H (by omega)]
  rfl
theorem slM_1 {F b K t : Nat} {x : Int32} {h : Hp} (hK : K < 8) (H : HM b K t h) (hb : b < 50) (ht : t < 1990 - 2) : fG_GS (F + 2) 0 [nI b, nI 1, x] h = some ((slP (nI b) K 1 x).1, trM (slP (nI b) K 1 x).2 h) := by
  show m_X8_slamsBy (fG_GS (F + 1)) (nI b) (nI 1) x h = _
  unfold m_X8_slamsBy
  rw [if_neg (by decide), if_pos (by decide), show f_X8_above (nI 1) = some (nI 0) by decide]
  simp only [Option.bind_some]
  rw [slM_0 hK H hb (by omega)]
  rfl
theorem slM_2 {F b K t : Nat} {x : Int32} {h : Hp} (hK : K < 8) (H : HM b K t h) (hb : b < 50) (ht : t < 1990 - 2) : fG_GS (F + 2) 0 [nI b, nI 2, x] h = some ((slP (nI b) K 2 x).1, trM (slP (nI b) K 2 x).2 h) := by
  show m_X8_slamsBy (fG_GS (F + 1)) (nI b) (nI 2) x h = _
  unfold m_X8_slamsBy
  rw [if_neg (by decide), if_neg (by decide), if_pos (by decide), show f_X8_above (nI 2) = some (nI 0) by decide]
  simp only [Option.bind_some]
  rw [slM_0 hK H hb (by omega)]
  rfl
theorem slM_3 {F b K t : Nat} {x : Int32} {h : Hp} (hK : K < 8) (H : HM b K t h) (hb : b < 50) (ht : t < 1990 - 3) : fG_GS (F + 3) 0 [nI b, nI 3, x] h = some ((slP (nI b) K 3 x).1, trM (slP (nI b) K 3 x).2 h) := by
  show m_X8_slamsBy (fG_GS (F + 2)) (nI b) (nI 3) x h = _
  unfold m_X8_slamsBy
  rw [if_neg (by decide), if_neg (by decide), if_neg (by decide), if_pos (by decide), ran_m H (by omega)]
  simp only [Option.bind_some]
  rw [show fG_GS (F + 2) 0 [nI b, 2, x] (runM 40 h) = _ from slM_2 hK (runM_HM H 40) hb (by omega)]
  rfl
theorem slM_4 {F b K t : Nat} {x : Int32} {h : Hp} (hK : K < 8) (H : HM b K t h) (hb : b < 50) (ht : t < 1990 - 3) : fG_GS (F + 3) 0 [nI b, nI 4, x] h = some ((slP (nI b) K 4 x).1, trM (slP (nI b) K 4 x).2 h) := by
  show m_X8_slamsBy (fG_GS (F + 2)) (nI b) (nI 4) x h = _
  unfold m_X8_slamsBy
  rw [if_neg (by decide), if_neg (by decide), if_neg (by decide), if_neg (by decide), if_pos (by decide), ran_m H (by omega)]
  simp only [Option.bind_some]
  have e : fG_GS (F + 2) 0 [nI b, 1, x] (runM 50 h) = some (x ^^^ nI b, trM [11] (runM 50 h)) := slM_1 hK (runM_HM H 50) hb (by omega)
  rw [e]
  simp only [Option.bind_some]
  have H2 : HM b K (t + 1 + 1) (trM [11] (runM 50 h)) := runM_HM (runM_HM H 50) 11
  rw [rd_77 hb, H2.1]
  simp only [Option.bind_some]
  rw [opM hK H2 (by omega)]
  rfl
theorem slM_5 {F b K t : Nat} {x : Int32} {h : Hp} (hK : K < 8) (H : HM b K t h) (hb : b < 50) (ht : t < 1990 - 4) : fG_GS (F + 4) 0 [nI b, nI 5, x] h = some ((slP (nI b) K 5 x).1, trM (slP (nI b) K 5 x).2 h) := by
  show m_X8_slamsBy (fG_GS (F + 3)) (nI b) (nI 5) x h = _
  unfold m_X8_slamsBy
  rw [if_neg (by decide), if_neg (by decide), if_neg (by decide), if_neg (by decide), if_neg (by decide), show f_X8_above (nI 5) = some (nI 3) by decide]
  simp only [Option.bind_some]
  rw [slM_3 hK H hb (by omega)]
  rfl
theorem slM_6 {F b K t : Nat} {x : Int32} {h : Hp} (hK : K < 8) (H : HM b K t h) (hb : b < 50) (ht : t < 1990 - 2) : fG_GS (F + 2) 0 [nI b, nI 6, x] h = some ((slP (nI b) K 6 x).1, trM (slP (nI b) K 6 x).2 h) := by
  show m_X8_slamsBy (fG_GS (F + 1)) (nI b) (nI 6) x h = _
  unfold m_X8_slamsBy
  rw [if_neg (by decide), if_neg (by decide), if_neg (by decide), if_neg (by decide), if_neg (by decide), show f_X8_above (nI 6) = some (nI 0) by decide]
  simp only [Option.bind_some]
  rw [slM_0 hK H hb (by omega)]
  rfl
theorem slM_7 {F b K t : Nat} {x : Int32} {h : Hp} (hK : K < 8) (H : HM b K t h) (hb : b < 50) (ht : t < 1990 - 4) : fG_GS (F + 4) 0 [nI b, nI 7, x] h = some ((slP (nI b) K 7 x).1, trM (slP (nI b) K 7 x).2 h) := by
  show m_X8_slamsBy (fG_GS (F + 3)) (nI b) (nI 7) x h = _
  unfold m_X8_slamsBy
  rw [if_neg (by decide), if_neg (by decide), if_neg (by decide), if_neg (by decide), if_neg (by decide), show f_X8_above (nI 7) = some (nI 4) by decide]
  simp only [Option.bind_some]
  rw [slM_4 hK H hb (by omega)]
  rfl
theorem slM {b K k t : Nat} {x : Int32} {h : Hp} (hk : k < 8) (hK : K < 8) (H : HM b K t h) (hb : b < 50) (ht : t < 1980) : f_X8_slamsBy (nI b) (nI k) x h = some ((slP (nI b) K k x).1, trM (slP (nI b) K k x).2 h) := by
  match k, hk with
  | 0, _ => exact slM_0 (F := 9) hK H hb (by omega)
  | 1, _ => exact slM_1 (F := 8) hK H hb (by omega)
  | 2, _ => exact slM_2 (F := 8) hK H hb (by omega)
  | 3, _ => exact slM_3 (F := 7) hK H hb (by omega)
  | 4, _ => exact slM_4 (F := 7) hK H hb (by omega)
  | 5, _ => exact slM_5 (F := 6) hK H hb (by omega)
  | 6, _ => exact slM_6 (F := 8) hK H hb (by omega)
  | 7, _ => exact slM_7 (F := 6) hK H hb (by omega)

theorem ctM_0 {F b K t : Nat} {x : Int32} {h : Hp} (hK : K < 8) (H : HM b K t h) (hb : b < 50) (ht : t < 1970 - 1) : fG_GK (F + 1) 0 [nI b, nI 0, x] h = some ((ctP (nI b) K 0 x).1, trM (ctP (nI b) K 0 x).2 h) := by
  show m_X8_countsBy (fG_GK F) (nI b) (nI 0) x h = _
  unfold m_X8_countsBy
  rw [if_pos (by decide), ran_m H (by omega)]
  simp only [Option.bind_some]
  rw [rd_77 hb, (runM_HM H 10).1]
  simp only [Option.bind_some]
  rw [opM hK (runM_HM H 10) (by omega)]
  rfl
theorem ctM_1 {F b K t : Nat} {x : Int32} {h : Hp} (hK : K < 8) (H : HM b K t h) (hb : b < 50) (ht : t < 1970 - 2) : fG_GK (F + 2) 0 [nI b, nI 1, x] h = some ((ctP (nI b) K 1 x).1, trM (ctP (nI b) K 1 x).2 h) := by
  show m_X8_countsBy (fG_GK (F + 1)) (nI b) (nI 1) x h = _
  unfold m_X8_countsBy
  rw [if_neg (by decide), if_pos (by decide), show f_X8_above (nI 1) = some (nI 0) by decide]
  simp only [Option.bind_some]
  rw [ctM_0 hK H hb (by omega)]
  rfl
theorem ctM_2 {F b K t : Nat} {x : Int32} {h : Hp} (hK : K < 8) (H : HM b K t h) (hb : b < 50) (ht : t < 1970 - 2) : fG_GK (F + 2) 0 [nI b, nI 2, x] h = some ((ctP (nI b) K 2 x).1, trM (ctP (nI b) K 2 x).2 h) := by
  show m_X8_countsBy (fG_GK (F + 1)) (nI b) (nI 2) x h = _
  unfold m_X8_countsBy
  rw [if_neg (by decide), if_neg (by decide), if_pos (by decide), ran_m H (by omega)]
  simp only [Option.bind_some]
  rw [show fG_GK (F + 1) 0 [nI b, 0, x] (runM 30 h) = _ from ctM_0 hK (runM_HM H 30) hb (by omega)]
  rfl
theorem ctM_3 {F b K t : Nat} {x : Int32} {h : Hp} (hK : K < 8) (H : HM b K t h) (hb : b < 50) (ht : t < 1970 - 3) : fG_GK (F + 3) 0 [nI b, nI 3, x] h = some ((ctP (nI b) K 3 x).1, trM (ctP (nI b) K 3 x).2 h) := by
  show m_X8_countsBy (fG_GK (F + 2)) (nI b) (nI 3) x h = _
  unfold m_X8_countsBy
  rw [if_neg (by decide), if_neg (by decide), if_neg (by decide), if_pos (by decide), ran_m H (by omega)]
  simp only [Option.bind_some]
  rw [show fG_GK (F + 2) 0 [nI b, 2, x + 1] (runM 41 h) = _ from ctM_2 hK (runM_HM H 41) hb (by omega)]
  rfl
theorem ctM_4 {F b K t : Nat} {x : Int32} {h : Hp} (hK : K < 8) (H : HM b K t h) (hb : b < 50) (ht : t < 1970 - 3) : fG_GK (F + 3) 0 [nI b, nI 4, x] h = some ((ctP (nI b) K 4 x).1, trM (ctP (nI b) K 4 x).2 h) := by
  show m_X8_countsBy (fG_GK (F + 2)) (nI b) (nI 4) x h = _
  unfold m_X8_countsBy
  rw [if_neg (by decide), if_neg (by decide), if_neg (by decide), if_neg (by decide), if_pos (by decide), show f_X8_above (nI 4) = some (nI 1) by decide]
  simp only [Option.bind_some]
  rw [ctM_1 hK H hb (by omega)]
  rfl
theorem ctM_5 {F b K t : Nat} {x : Int32} {h : Hp} (hK : K < 8) (H : HM b K t h) (hb : b < 50) (ht : t < 1970 - 4) : fG_GK (F + 4) 0 [nI b, nI 5, x] h = some ((ctP (nI b) K 5 x).1, trM (ctP (nI b) K 5 x).2 h) := by
  show m_X8_countsBy (fG_GK (F + 3)) (nI b) (nI 5) x h = _
  unfold m_X8_countsBy
  rw [if_neg (by decide), if_neg (by decide), if_neg (by decide), if_neg (by decide), if_neg (by decide), if_pos (by decide), show f_X8_above (nI 5) = some (nI 3) by decide]
  simp only [Option.bind_some]
  rw [ctM_3 hK H hb (by omega)]
  rfl
theorem ctM_6 {F b K t : Nat} {x : Int32} {h : Hp} (hK : K < 8) (H : HM b K t h) (hb : b < 50) (ht : t < 1970 - 2) : fG_GK (F + 2) 0 [nI b, nI 6, x] h = some ((ctP (nI b) K 6 x).1, trM (ctP (nI b) K 6 x).2 h) := by
  show m_X8_countsBy (fG_GK (F + 1)) (nI b) (nI 6) x h = _
  unfold m_X8_countsBy
  rw [if_neg (by decide), if_neg (by decide), if_neg (by decide), if_neg (by decide), if_neg (by decide), if_neg (by decide), if_pos (by decide), show f_X8_above (nI 6) = some (nI 0) by decide]
  simp only [Option.bind_some]
  rw [ctM_0 hK H hb (by omega)]
  rfl
theorem ctM_7 {F b K t : Nat} {x : Int32} {h : Hp} (hK : K < 8) (H : HM b K t h) (hb : b < 50) (ht : t < 1970 - 4) : fG_GK (F + 4) 0 [nI b, nI 7, x] h = some ((ctP (nI b) K 7 x).1, trM (ctP (nI b) K 7 x).2 h) := by
  show m_X8_countsBy (fG_GK (F + 3)) (nI b) (nI 7) x h = _
  unfold m_X8_countsBy
  rw [if_neg (by decide), if_neg (by decide), if_neg (by decide), if_neg (by decide), if_neg (by decide), if_neg (by decide), if_neg (by decide), if_pos (by decide), ran_m H (by omega)]
  simp only [Option.bind_some]
  have e : fG_GK (F + 3) 0 [nI b, 4, x] (runM 80 h) = some ((ct0 (nI b) K x).1, trM (ct0 (nI b) K x).2 (runM 80 h)) := ctM_4 hK (runM_HM H 80) hb (by omega)
  rw [e]
  simp only [Option.bind_some]
  have ll := ct0_len (nI b) K x
  have H2 := trM_HM (ct0 (nI b) K x).2 (t + 1) _ (runM_HM H 80)
  rw [rd_77 hb, H2.1]
  simp only [Option.bind_some]
  rw [slM hK hK H2 hb (by omega)]
  simp only [Option.bind_some]
  show _ = some (_, trM ((ct0 (nI b) K x).2 ++ (slP (nI b) K K 2).2) (runM 80 h))
  rw [trM_app]
  rfl
theorem ctM {b K k t : Nat} {x : Int32} {h : Hp} (hk : k < 8) (hK : K < 8) (H : HM b K t h) (hb : b < 50) (ht : t < 1960) : f_X8_countsBy (nI b) (nI k) x h = some ((ctP (nI b) K k x).1, trM (ctP (nI b) K k x).2 h) := by
  match k, hk with
  | 0, _ => exact ctM_0 (F := 9) hK H hb (by omega)
  | 1, _ => exact ctM_1 (F := 8) hK H hb (by omega)
  | 2, _ => exact ctM_2 (F := 8) hK H hb (by omega)
  | 3, _ => exact ctM_3 (F := 7) hK H hb (by omega)
  | 4, _ => exact ctM_4 (F := 7) hK H hb (by omega)
  | 5, _ => exact ctM_5 (F := 6) hK H hb (by omega)
  | 6, _ => exact ctM_6 (F := 8) hK H hb (by omega)
  | 7, _ => exact ctM_7 (F := 6) hK H hb (by omega)

theorem tlM_0 {F b K t : Nat} {x : Int32} {h : Hp} (hK : K < 8) (H : HM b K t h) (hb : b < 50) (ht : t < 1940 - 1) : fG_GL (F + 1) 0 [nI b, nI 0, x] h = some ((tlP (nI b) K 0 x).1, trM (tlP (nI b) K 0 x).2 h) := by
  show m_X8_tells (fG_GL F) (nI b) (nI 0) x h = _
  unfold m_X8_tells
  rw [if_pos (by decide), ran_m H (by omega)]
  simp only [Option.bind_some]
  rw [rd_77 hb, (runM_HM H 2).1]
  simp only [Option.bind_some]
  rw [ctM hK hK (runM_HM H 2) hb (by omega)]
  simp only [Option.bind_some]
  have ll := ct_len (nI b) K K x
  have H2 := trM_HM (ctP (nI b) K K x).2 (t + 1) _ (runM_HM H 2)
  rw [rd_77 hb, H2.1]
  simp only [Option.bind_some]
  rw [slM hK hK H2 hb (by omega)]
  simp only [Option.bind_some]
  show _ = some (_, trM ((ctP (nI b) K K x).2 ++ (slP (nI b) K K 1).2) (runM 2 h))
  rw [trM_app]
  rfl
theorem tlM_1 {F b K t : Nat} {x : Int32} {h : Hp} (hK : K < 8) (H : HM b K t h) (hb : b < 50) (ht : t < 1940 - 2) : fG_GL (F + 2) 0 [nI b, nI 1, x] h = some ((tlP (nI b) K 1 x).1, trM (tlP (nI b) K 1 x).2 h) := by
  show m_X8_tells (fG_GL (F + 1)) (nI b) (nI 1) x h = _
  unfold m_X8_tells
  rw [if_neg (by decide), if_neg (by decide), if_neg (by decide), show f_X8_above (nI 1) = some (nI 0) by decide]
  simp only [Option.bind_some]
  rw [tlM_0 hK H hb (by omega)]
  rfl
theorem tlM_2 {F b K t : Nat} {x : Int32} {h : Hp} (hK : K < 8) (H : HM b K t h) (hb : b < 50) (ht : t < 1940 - 2) : fG_GL (F + 2) 0 [nI b, nI 2, x] h = some ((tlP (nI b) K 2 x).1, trM (tlP (nI b) K 2 x).2 h) := by
  show m_X8_tells (fG_GL (F + 1)) (nI b) (nI 2) x h = _
  unfold m_X8_tells
  rw [if_neg (by decide), if_neg (by decide), if_neg (by decide), show f_X8_above (nI 2) = some (nI 0) by decide]
  simp only [Option.bind_some]
  rw [tlM_0 hK H hb (by omega)]
  rfl
theorem tlM_3 {F b K t : Nat} {x : Int32} {h : Hp} (hK : K < 8) (H : HM b K t h) (hb : b < 50) (ht : t < 1940 - 3) : fG_GL (F + 3) 0 [nI b, nI 3, x] h = some ((tlP (nI b) K 3 x).1, trM (tlP (nI b) K 3 x).2 h) := by
  show m_X8_tells (fG_GL (F + 2)) (nI b) (nI 3) x h = _
  unfold m_X8_tells
  rw [if_neg (by decide), if_neg (by decide), if_neg (by decide), show f_X8_above (nI 3) = some (nI 2) by decide]
  simp only [Option.bind_some]
  rw [tlM_2 hK H hb (by omega)]
  rfl
theorem tlM_4 {F b K t : Nat} {x : Int32} {h : Hp} (hK : K < 8) (H : HM b K t h) (hb : b < 50) (ht : t < 1940 - 3) : fG_GL (F + 3) 0 [nI b, nI 4, x] h = some ((tlP (nI b) K 4 x).1, trM (tlP (nI b) K 4 x).2 h) := by
  show m_X8_tells (fG_GL (F + 2)) (nI b) (nI 4) x h = _
  unfold m_X8_tells
  rw [if_neg (by decide), if_neg (by decide), if_neg (by decide), show f_X8_above (nI 4) = some (nI 1) by decide]
  simp only [Option.bind_some]
  rw [tlM_1 hK H hb (by omega)]
  rfl
theorem tlM_5 {F b K t : Nat} {x : Int32} {h : Hp} (hK : K < 8) (H : HM b K t h) (hb : b < 50) (ht : t < 1940 - 4) : fG_GL (F + 4) 0 [nI b, nI 5, x] h = some ((tlP (nI b) K 5 x).1, trM (tlP (nI b) K 5 x).2 h) := by
  show m_X8_tells (fG_GL (F + 3)) (nI b) (nI 5) x h = _
  unfold m_X8_tells
  rw [if_neg (by decide), if_pos (by decide), ran_m H (by omega)]
  simp only [Option.bind_some]
  rw [show fG_GL (F + 3) 0 [nI b, 3, x] (runM 60 h) = _ from tlM_3 hK (runM_HM H 60) hb (by omega)]
  rfl
theorem tlM_6 {F b K t : Nat} {x : Int32} {h : Hp} (hK : K < 8) (H : HM b K t h) (hb : b < 50) (ht : t < 1940 - 2) : fG_GL (F + 2) 0 [nI b, nI 6, x] h = some ((tlP (nI b) K 6 x).1, trM (tlP (nI b) K 6 x).2 h) := by
  show m_X8_tells (fG_GL (F + 1)) (nI b) (nI 6) x h = _
  unfold m_X8_tells
  rw [if_neg (by decide), if_neg (by decide), if_neg (by decide), show f_X8_above (nI 6) = some (nI 0) by decide]
  simp only [Option.bind_some]
  rw [tlM_0 hK H hb (by omega)]
  rfl
theorem tlM_7 {F b K t : Nat} {x : Int32} {h : Hp} (hK : K < 8) (H : HM b K t h) (hb : b < 50) (ht : t < 1940 - 4) : fG_GL (F + 4) 0 [nI b, nI 7, x] h = some ((tlP (nI b) K 7 x).1, trM (tlP (nI b) K 7 x).2 h) := by
  show m_X8_tells (fG_GL (F + 3)) (nI b) (nI 7) x h = _
  unfold m_X8_tells
  rw [if_neg (by decide), if_neg (by decide), if_pos (by decide), ran_m H (by omega)]
  simp only [Option.bind_some]
  rw [show fG_GL (F + 3) 0 [nI b, 4, x] (runM 81 h) = _ from tlM_4 hK (runM_HM H 81) hb (by omega)]
  rfl
theorem tlM {b K k t : Nat} {x : Int32} {h : Hp} (hk : k < 8) (hK : K < 8) (H : HM b K t h) (hb : b < 50) (ht : t < 1930) : f_X8_tells (nI b) (nI k) x h = some ((tlP (nI b) K k x).1, trM (tlP (nI b) K k x).2 h) := by
  match k, hk with
  | 0, _ => exact tlM_0 (F := 9) hK H hb (by omega)
  | 1, _ => exact tlM_1 (F := 8) hK H hb (by omega)
  | 2, _ => exact tlM_2 (F := 8) hK H hb (by omega)
  | 3, _ => exact tlM_3 (F := 7) hK H hb (by omega)
  | 4, _ => exact tlM_4 (F := 7) hK H hb (by omega)
  | 5, _ => exact tlM_5 (F := 6) hK H hb (by omega)
  | 6, _ => exact tlM_6 (F := 8) hK H hb (by omega)
  | 7, _ => exact tlM_7 (F := 6) hK H hb (by omega)

