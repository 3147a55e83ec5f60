/-! frames: which cells a method may write -/
def LR (h : Hp) : Prop := (h.2.2 7 2 = 9 ∨ h.2.2 7 2 = 10) ∧ (h.2.2 7 4 = 9 ∨ h.2.2 7 4 = 10)
def FW (W : Nat → Bool) (h h' : Hp) : Prop := LR h → LR h' ∧ ∀ k, W k = false → h'.1 k = h.1 k ∧ h'.2.1 k = h.2.1 k ∧ h'.2.2 k = h.2.2 k
theorem FW.refl (W : Nat → Bool) (h : Hp) : FW W h h := fun q => ⟨q, fun _ _ => ⟨rfl, rfl, rfl⟩⟩
theorem FW.trans {W : Nat → Bool} {a b c : Hp} (F : FW W a b) (G : FW W b c) : FW W a c := fun q =>
  have h1 := F q
  have h2 := G h1.1
  ⟨h2.1, fun k hk => ⟨(h2.2 k hk).1.trans (h1.2 k hk).1, (h2.2 k hk).2.1.trans (h1.2 k hk).2.1, (h2.2 k hk).2.2.trans (h1.2 k hk).2.2⟩⟩
theorem fw_ne {W : Nat → Bool} {a k : Nat} (ha : W a = true) (hk : W k = false) : k ≠ a := fun e => by rw [e, ha] at hk; cases hk
theorem FW.upi {W : Nat → Bool} {h0 h : Hp} {a : Nat} {f : Nat → Int32} (F : FW W h0 h) (ha : LR h → W a = true) : FW W h0 (upI h a f) := F.trans fun q => ⟨q, fun k hk => ⟨if_neg (fw_ne (ha q) hk), rfl, rfl⟩⟩
theorem FW.upl {W : Nat → Bool} {h0 h : Hp} {a : Nat} {f : Nat → Int64} (F : FW W h0 h) (ha : LR h → W a = true) : FW W h0 (upL h a f) := F.trans fun q => ⟨q, fun k hk => ⟨rfl, if_neg (fw_ne (ha q) hk), rfl⟩⟩
theorem FW.st {W : Nat → Bool} {h0 h h1 : Hp} {a j : Nat} {v : Int32} (F : FW W h0 h) (ha : LR h → W a = true) (e : stI h a j v = h1) : FW W h0 h1 := e ▸ F.upi ha
theorem FW.upr {W : Nat → Bool} {h0 h h1 : Hp} {a j v : Nat} (F : FW W h0 h) (ha : LR h → W a = true) (hv : LR h0 → v = 9 ∨ v = 10) (e : upR h a j v = h1) : FW W h0 h1 := e ▸ fun q0 => F.trans (fun q => ⟨⟨by
    show (if 7 = a ∧ 2 = j then v else h.2.2 7 2) = 9 ∨ (if 7 = a ∧ 2 = j then v else h.2.2 7 2) = 10
    split
    · exact hv q0
    · exact q.1, by
    show (if 7 = a ∧ 4 = j then v else h.2.2 7 4) = 9 ∨ (if 7 = a ∧ 4 = j then v else h.2.2 7 4) = 10
    split
    · exact hv q0
    · exact q.2⟩, fun k hk => ⟨rfl, rfl, funext fun i => if_neg (fun w => fw_ne (ha q) hk w.1)⟩⟩) q0
theorem FW.wri {W : Nat → Bool} {h0 h h1 : Hp} {a : Nat} {i v : Int32} (F : FW W h0 h) (ha : LR h → W a = true) (e : wrI h a i v = some h1) : FW W h0 h1 := by
  unfold wrI at e
  split at e
  · cases e
  · cases e; exact F.upi ha
theorem FW.wrl {W : Nat → Bool} {h0 h h1 : Hp} {a : Nat} {i : Int32} {v : Int64} (F : FW W h0 h) (ha : LR h → W a = true) (e : wrL h a i v = some h1) : FW W h0 h1 := by
  unfold wrL at e
  split at e
  · cases e
  · cases e; exact F.upl ha
theorem FW.cpi {W : Nat → Bool} {h0 h h1 : Hp} {a b : Nat} {i j n : Int32} (F : FW W h0 h) (ha : LR h → W b = true) (e : cpI h a i b j n = some h1) : FW W h0 h1 := by
  unfold cpI at e
  split at e
  · cases e
  · cases e; exact F.upi ha
theorem FW.cpl {W : Nat → Bool} {h0 h h1 : Hp} {a b : Nat} {i j n : Int32} (F : FW W h0 h) (ha : LR h → W b = true) (e : cpL h a i b j n = some h1) : FW W h0 h1 := by
  unfold cpL at e
  split at e
  · cases e
  · cases e; exact F.upl ha
theorem iter_F {σ α : Type} {W : Nat → Bool} {b : σ → Option (σ ⊕ α)} {hs : σ → Hp} {ha : α → Hp} (hb : ∀ s o, b s = some o → FW W (hs s) (Sum.elim hs ha o)) : ∀ (n : Nat) (s : σ) (a : α), iter b n s = some a → FW W (hs s) (ha a) := by
  intro n
  induction n with
  | zero => intro s a h; cases h
  | succ n ih =>
    intro s a h
    obtain ⟨o, h1, h2⟩ := bind_some (show (b s).bind (Sum.elim (fun t => iter b n t) some) = some a from h)
    cases o with
    | inl t => exact (hb s _ h1).trans (ih t a h2)
    | inr c => cases h2; exact hb s _ h1
theorem lt_e {α β : Type} {e : α} {k : α → Option β} {r : β} (h : lt e k = some r) : ∃ y, e = y ∧ k y = some r := ⟨e, rfl, h⟩
theorem ite_e {α : Type} {c : Prop} [Decidable c] {t e : Option α} {r : α} (h : (if c then t else e) = some r) : (c ∧ t = some r) ∨ (¬ c ∧ e = some r) := by
  by_cases q : c
  · rw [if_pos q] at h; exact Or.inl ⟨q, h⟩
  · rw [if_neg q] at h; exact Or.inr ⟨q, h⟩
theorem lr2 {W : Nat → Bool} {h : Hp} (q : LR h) (h9 : W 9 = true) (h10 : W 10 = true) : W (h.2.2 7 2) = true := by rcases q.1 with e | e <;> rw [e] <;> assumption
theorem lr4 {W : Nat → Bool} {h : Hp} (q : LR h) (h9 : W 9 = true) (h10 : W 10 = true) : W (h.2.2 7 4) = true := by rcases q.2 with e | e <;> rw [e] <;> assumption
theorem lrv2 {h : Hp} (q : LR h) : h.2.2 7 2 = 9 ∨ h.2.2 7 2 = 10 := q.1
theorem lrv4 {h : Hp} (q : LR h) : h.2.2 7 4 = 9 ∨ h.2.2 7 4 = 10 := q.2
theorem sub_L {W : Nat → Bool} {L L' : List Nat} (hL : ∀ c ∈ L, W c = true) (h : (L'.all fun c => L.contains c) = true) : ∀ c ∈ L', W c = true := fun c hc => hL c (by simpa using List.all_eq_true.mp h c hc)
theorem rdR_W {W : Nat → Bool} {v : Nat} {i : Int32} (hv : rdR 31 i = some v) (hL : ∀ c ∈ [32, 33, 34, 35, 36, 37], W c = true) : W v = true := by
  unfold rdR at hv
  split at hv
  · cases hv
  · rename_i q
    cases hv
    have hn : i.toNatClampNeg < 6 := by
      have : SR 31 = 6 := by decide
      omega
    refine hL _ ?_
    generalize i.toNatClampNeg = n at hn
    match n, hn with
    | 0, _ => decide
    | 1, _ => decide
    | 2, _ => decide
    | 3, _ => decide
    | 4, _ => decide
    | 5, _ => decide
def L_X3_settle : List Nat := [1, 2, 3]
theorem fr_X3_settle {W : Nat → Bool} (hL : ∀ c ∈ L_X3_settle, W c = true) (a1 : Int32) (h : Hp) (out : (Int32 × Hp)) (H : f_X3_settle a1 h = some out) : FW W h out.2 := by
  unfold f_X3_settle at H
  have F := FW.refl W h
  obtain ⟨h1, eh1, H⟩ := bind_some H
  have F := F.wri (fun q9 => (hL 2 (by decide))) eh1
  obtain ⟨h2, eh2, H⟩ := bind_some H
  have F := F.wri (fun q9 => (hL 3 (by decide))) eh2
  obtain ⟨h3, eh3, H⟩ := lt_e H
  have F := F.st (fun q9 => (hL 1 (by decide))) eh3
  obtain rfl := Option.some.inj H
  exact F
def L_X3_offend : List Nat := [1, 4, 5, 6]
theorem fr_X3_offend {W : Nat → Bool} (hL : ∀ c ∈ L_X3_offend, W c = true) (a1 : Int32) (a2 : Int32) (a3 : Int32) (h : Hp) (out : (Int32 × Hp)) (H : f_X3_offend a1 a2 a3 h = some out) : FW W h out.2 := by
  unfold f_X3_offend at H
  have F := FW.refl W h
  obtain ⟨h1, eh1, H⟩ := bind_some H
  have F := F.wri (fun q9 => (hL 4 (by decide))) eh1
  obtain ⟨h2, eh2, H⟩ := bind_some H
  have F := F.wri (fun q9 => (hL 5 (by decide))) eh2
  obtain ⟨h3, eh3, H⟩ := bind_some H
  have F := F.wri (fun q9 => (hL 6 (by decide))) eh3
  obtain ⟨h4, eh4, H⟩ := lt_e H
  have F := F.st (fun q9 => (hL 1 (by decide))) eh4
  obtain rfl := Option.some.inj H
  exact F
def L_X5_setForgiven : List Nat := []
theorem fr_X5_setForgiven {W : Nat → Bool} (hL : ∀ c ∈ L_X5_setForgiven, W c = true) (o : Nat) (a1 : Int32) (a2 : Int32) (h : Hp) (hw_o : W o = true) (out : Hp) (H : f_X5_setForgiven o a1 a2 h = some out) : FW W h out := by
  unfold f_X5_setForgiven at H
  have F := FW.refl W h
  obtain ⟨hgo, H⟩ := gd_some H
  rcases ite_e H with ⟨-, H⟩ | ⟨-, H⟩
  · obtain ⟨h2, eh2, H⟩ := lt_e H
    have F := F.st (fun q9 => hw_o) eh2
    obtain rfl := Option.some.inj H
    exact F
  · obtain ⟨h3, eh3, H⟩ := lt_e H
    have F := F.st (fun q9 => hw_o) eh3
    obtain rfl := Option.some.inj H
    exact F
def L_X4_take : List Nat := [7, 8]
theorem fr_X4_take {W : Nat → Bool} (hL : ∀ c ∈ L_X4_take, W c = true) (a1 : Int32) (h : Hp) (out : (Int32 × Hp)) (H : f_X4_take a1 h = some out) : FW W h out.2 := by
  unfold f_X4_take at H
  have F := FW.refl W h
  rcases ite_e H with ⟨-, H⟩ | ⟨-, H⟩
  · obtain rfl := Option.some.inj H
    exact F
  · obtain ⟨h2, eh2, H⟩ := bind_some H
    have F := F.wri (fun q9 => (hL 8 (by decide))) eh2
    obtain ⟨h3, eh3, H⟩ := lt_e H
    have F := F.st (fun q9 => (hL 7 (by decide))) eh3
    obtain rfl := Option.some.inj H
    exact F
def L_X4_emit : List Nat := [7, 9, 10]
theorem fr_X4_emit {W : Nat → Bool} (hL : ∀ c ∈ L_X4_emit, W c = true) (a1 : Int32) (h : Hp) (out : Hp) (H : f_X4_emit a1 h = some out) : FW W h out := by
  unfold f_X4_emit at H
  have F := FW.refl W h
  obtain ⟨v1, -, H⟩ := bind_some H
  rcases ite_e H with ⟨-, H⟩ | ⟨-, H⟩
  · obtain rfl := Option.some.inj H
    exact F
  · obtain ⟨h3, eh3, H⟩ := bind_some H
    have F := F.wri (fun q9 => (lr4 q9 (hL 9 (by decide)) (hL 10 (by decide)))) eh3
    obtain ⟨h4, eh4, H⟩ := lt_e H
    have F := F.st (fun q9 => (hL 7 (by decide))) eh4
    obtain rfl := Option.some.inj H
    exact F
def L_X4_tell : List Nat := [11]
theorem fr_X4_tell {W : Nat → Bool} (hL : ∀ c ∈ L_X4_tell, W c = true) (a1 : Int32) (a2 : Int32) (a3 : Int32) (a4 : Int32) (a5 : Int32) (a6 : Int32) (h : Hp) (out : Hp) (H : f_X4_tell a1 a2 a3 a4 a5 a6 h = some out) : FW W h out := by
  unfold f_X4_tell at H
  have F := FW.refl W h
  obtain ⟨h1, eh1, H⟩ := bind_some H
  have F := F.wri (fun q9 => (hL 11 (by decide))) eh1
  obtain ⟨h2, eh2, H⟩ := bind_some H
  have F := F.wri (fun q9 => (hL 11 (by decide))) eh2
  obtain ⟨h3, eh3, H⟩ := bind_some H
  have F := F.wri (fun q9 => (hL 11 (by decide))) eh3
  obtain ⟨h4, eh4, H⟩ := bind_some H
  have F := F.wri (fun q9 => (hL 11 (by decide))) eh4
  obtain ⟨h5, eh5, H⟩ := bind_some H
  have F := F.wri (fun q9 => (hL 11 (by decide))) eh5
  obtain ⟨h6, eh6, H⟩ := bind_some H
  have F := F.wri (fun q9 => (hL 11 (by decide))) eh6
  obtain rfl := Option.some.inj H
  exact F
def L_X7_longestRise : List Nat := [50, 51]
theorem fb_X7_longestRise_28 {W : Nat → Bool} (hL : ∀ c ∈ L_X7_longestRise, W c = true) (a1 : Int32) (a2 : Int32) (s : (Int32 × Hp)) (out : (Int32 × Hp) ⊕ (Int32 × Hp)) (H : b_X7_longestRise_28 a1 a2 s = some out) : FW W ((fun s : (Int32 × Hp) => s.2) s) (Sum.elim (fun s : (Int32 × Hp) => s.2) (fun s : (Int32 × Hp) => s.2) out) := by
  unfold b_X7_longestRise_28 at H
  have F := FW.refl W s.2
  rcases ite_e H with ⟨-, H⟩ | ⟨-, H⟩
  · obtain rfl := Option.some.inj H
    exact F
  · obtain ⟨v5, -, H⟩ := bind_some H
    obtain ⟨v6, -, H⟩ := bind_some H
    rcases ite_e H with ⟨-, H⟩ | ⟨-, H⟩
    · obtain rfl := Option.some.inj H
      exact F
    · obtain ⟨v8, -, H⟩ := bind_some H
      obtain ⟨v9, -, H⟩ := bind_some H
      rcases ite_e H with ⟨-, H⟩ | ⟨-, H⟩
      · obtain rfl := Option.some.inj H
        exact F
      · obtain ⟨v11, -, H⟩ := bind_some H
        obtain ⟨h12, eh12, H⟩ := bind_some H
        have F := F.wri (fun q9 => (hL 50 (by decide))) eh12
        obtain ⟨v13, -, H⟩ := bind_some H
        obtain ⟨h14, eh14, H⟩ := bind_some H
        have F := F.wri (fun q9 => (hL 51 (by decide))) eh14
        obtain rfl := Option.some.inj H
        exact F
theorem fb_X7_longestRise_4 {W : Nat → Bool} (hL : ∀ c ∈ L_X7_longestRise, W c = true) (s : (Int32 × Int32 × Hp)) (out : (Int32 × Int32 × Hp) ⊕ (Int32 × Int32 × Hp)) (H : b_X7_longestRise_4 s = some out) : FW W ((fun s : (Int32 × Int32 × Hp) => s.2.2) s) (Sum.elim (fun s : (Int32 × Int32 × Hp) => s.2.2) (fun s : (Int32 × Int32 × Hp) => s.2.2) out) := by
  unfold b_X7_longestRise_4 at H
  have F := FW.refl W s.2.2
  rcases ite_e H with ⟨-, H⟩ | ⟨-, H⟩
  · obtain rfl := Option.some.inj H
    exact F
  · obtain ⟨h2, eh2, H⟩ := bind_some H
    have F := F.wri (fun q9 => (hL 50 (by decide))) eh2
    obtain ⟨h3, eh3, H⟩ := bind_some H
    have F := F.wri (fun q9 => (hL 51 (by decide))) eh3
    obtain ⟨a15, ha15, H⟩ := bind_some H
    have F := F.trans (iter_F (hs := (fun s : (Int32 × Hp) => s.2)) (ha := (fun s : (Int32 × Hp) => s.2)) (fun s9 o9 ho9 => fb_X7_longestRise_28 hL s.1 s.2.1 s9 o9 ho9) _ (0, h3) _ ha15)
    obtain ⟨v16, -, H⟩ := bind_some H
    obtain ⟨v17, -, H⟩ := bind_some H
    rcases ite_e H with ⟨-, H⟩ | ⟨-, H⟩
    · obtain rfl := Option.some.inj H
      exact F
    · obtain rfl := Option.some.inj H
      exact F
theorem fr_X7_longestRise {W : Nat → Bool} (hL : ∀ c ∈ L_X7_longestRise, W c = true) (h : Hp) (out : (Int32 × Hp)) (H : f_X7_longestRise h = some out) : FW W h out.2 := by
  unfold f_X7_longestRise at H
  have F := FW.refl W h
  obtain ⟨a19, ha19, H⟩ := bind_some H
  have F := F.trans (iter_F (hs := (fun s : (Int32 × Int32 × Hp) => s.2.2)) (ha := (fun s : (Int32 × Int32 × Hp) => s.2.2)) (fun s9 o9 ho9 => fb_X7_longestRise_4 hL s9 o9 ho9) _ (0, 0, h) _ ha19)
  obtain rfl := Option.some.inj H
  exact F
def L_X2_clear : List Nat := [44]
theorem fr_X2_clear {W : Nat → Bool} (hL : ∀ c ∈ L_X2_clear, W c = true) (h : Hp) (out : Hp) (H : f_X2_clear h = some out) : FW W h out := by
  unfold f_X2_clear at H
  have F := FW.refl W h
  obtain ⟨h1, eh1, H⟩ := lt_e H
  have F := F.st (fun q9 => (hL 44 (by decide))) eh1
  obtain ⟨h2, eh2, H⟩ := lt_e H
  have F := F.st (fun q9 => (hL 44 (by decide))) eh2
  obtain ⟨h3, eh3, H⟩ := lt_e H
  have F := F.st (fun q9 => (hL 44 (by decide))) eh3
  obtain rfl := Option.some.inj H
  exact F
def L_X2_offer : List Nat := [44, 45, 46, 47, 48]
theorem fr_X2_offer {W : Nat → Bool} (hL : ∀ c ∈ L_X2_offer, W c = true) (a1 : Int32) (a2 : Int32) (a3 : Int32) (a4 : Int32) (h : Hp) (out : Hp) (H : f_X2_offer a1 a2 a3 a4 h = some out) : FW W h out := by
  unfold f_X2_offer at H
  have F := FW.refl W h
  rcases ite_e H with ⟨-, H⟩ | ⟨-, H⟩
  · obtain rfl := Option.some.inj H
    exact F
  · rcases ite_e H with ⟨-, H⟩ | ⟨-, H⟩
    · obtain rfl := Option.some.inj H
      exact F
    · obtain ⟨h3, eh3, H⟩ := bind_some H
      have F := F.wri (fun q9 => (hL 45 (by decide))) eh3
      obtain ⟨h4, eh4, H⟩ := bind_some H
      have F := F.wri (fun q9 => (hL 46 (by decide))) eh4
      obtain ⟨h5, eh5, H⟩ := bind_some H
      have F := F.wri (fun q9 => (hL 47 (by decide))) eh5
      obtain ⟨h6, eh6, H⟩ := bind_some H
      have F := F.wri (fun q9 => (hL 48 (by decide))) eh6
      obtain ⟨h7, eh7, H⟩ := lt_e H
      have F := F.st (fun q9 => (hL 44 (by decide))) eh7
      obtain rfl := Option.some.inj H
      exact F
def L_J7_fill_53178 : List Nat := []
theorem fb_J7_fill_53178_5 {W : Nat → Bool} (hL : ∀ c ∈ L_J7_fill_53178, W c = true) (a0 : Nat) (a1 : Int32) (a3 : Int32) (hw_a0 : W a0 = true) (s : (Int32 × Hp)) (out : (Int32 × Hp) ⊕ (Int32 × Hp)) (H : b_J7_fill_53178_5 a0 a1 a3 s = some out) : FW W ((fun s : (Int32 × Hp) => s.2) s) (Sum.elim (fun s : (Int32 × Hp) => s.2) (fun s : (Int32 × Hp) => s.2) out) := by
  unfold b_J7_fill_53178_5 at H
  have F := FW.refl W s.2
  rcases ite_e H with ⟨-, H⟩ | ⟨-, H⟩
  · obtain rfl := Option.some.inj H
    exact F
  · obtain ⟨h3, eh3, H⟩ := bind_some H
    have F := F.wri (fun q9 => hw_a0) eh3
    obtain rfl := Option.some.inj H
    exact F
theorem fr_J7_fill_53178 {W : Nat → Bool} (hL : ∀ c ∈ L_J7_fill_53178, W c = true) (a0 : Nat) (a1 : Int32) (h : Hp) (hw_a0 : W a0 = true) (out : Hp) (H : f_J7_fill_53178 a0 a1 h = some out) : FW W h out := by
  unfold f_J7_fill_53178 at H
  have F := FW.refl W h
  obtain ⟨v1, -, H⟩ := bind_some H
  obtain ⟨a4, ha4, H⟩ := bind_some H
  have F := F.trans (iter_F (hs := (fun s : (Int32 × Hp) => s.2)) (ha := (fun s : (Int32 × Hp) => s.2)) (fun s9 o9 ho9 => fb_J7_fill_53178_5 hL a0 a1 v1 hw_a0 s9 o9 ho9) _ (0, h) _ ha4)
  obtain rfl := Option.some.inj H
  exact F
def L_X0_stepBack : List Nat := [25]
theorem fr_X0_stepBack {W : Nat → Bool} (hL : ∀ c ∈ L_X0_stepBack, W c = true) (h : Hp) (out : (Int32 × Hp)) (H : f_X0_stepBack h = some out) : FW W h out.2 := by
  unfold f_X0_stepBack at H
  have F := FW.refl W h
  obtain ⟨h1, eh1, H⟩ := lt_e H
  have F := F.st (fun q9 => (hL 25 (by decide))) eh1
  obtain rfl := Option.some.inj H
  exact F
def L_X0_stepOn : List Nat := [25]
theorem fr_X0_stepOn {W : Nat → Bool} (hL : ∀ c ∈ L_X0_stepOn, W c = true) (h : Hp) (out : (Int32 × Hp)) (H : f_X0_stepOn h = some out) : FW W h out.2 := by
  unfold f_X0_stepOn at H
  have F := FW.refl W h
  obtain ⟨h1, eh1, H⟩ := lt_e H
  have F := F.st (fun q9 => (hL 25 (by decide))) eh1
  obtain rfl := Option.some.inj H
  exact F
def L_X1_add : List Nat := [41, 42]
theorem fr_X1_add {W : Nat → Bool} (hL : ∀ c ∈ L_X1_add, W c = true) (a1 : Int32) (h : Hp) (out : (Int32 × Hp)) (H : f_X1_add a1 h = some out) : FW W h out.2 := by
  unfold f_X1_add at H
  have F := FW.refl W h
  rcases ite_e H with ⟨-, H⟩ | ⟨-, H⟩
  · obtain rfl := Option.some.inj H
    exact F
  · obtain ⟨h2, eh2, H⟩ := bind_some H
    have F := F.wri (fun q9 => (hL 42 (by decide))) eh2
    obtain ⟨h3, eh3, H⟩ := lt_e H
    have F := F.st (fun q9 => (hL 41 (by decide))) eh3
    obtain rfl := Option.some.inj H
    exact F
def L_X6_setEmpty : List Nat := [38, 39]
theorem fr_X6_setEmpty {W : Nat → Bool} (hL : ∀ c ∈ L_X6_setEmpty, W c = true) (a1 : Int32) (h : Hp) (out : Hp) (H : f_X6_setEmpty a1 h = some out) : FW W h out := by
  unfold f_X6_setEmpty at H
  have F := FW.refl W h
  obtain ⟨h1, eh1, H⟩ := bind_some H
  have F := F.wri (fun q9 => (hL 39 (by decide))) eh1
  obtain ⟨h2, eh2, H⟩ := bind_some H
  have F := F.wri (fun q9 => (hL 38 (by decide))) eh2
  obtain rfl := Option.some.inj H
  exact F
def L_X6_setDoor : List Nat := [38, 39, 40]
theorem fr_X6_setDoor {W : Nat → Bool} (hL : ∀ c ∈ L_X6_setDoor, W c = true) (a1 : Int32) (a2 : Int32) (h : Hp) (out : Hp) (H : f_X6_setDoor a1 a2 h = some out) : FW W h out := by
  unfold f_X6_setDoor at H
  have F := FW.refl W h
  obtain ⟨h1, eh1, H⟩ := bind_some H
  have F := F.wri (fun q9 => (hL 39 (by decide))) eh1
  obtain ⟨h2, eh2, H⟩ := bind_some H
  have F := F.wri (fun q9 => (hL 40 (by decide))) eh2
  obtain ⟨h3, eh3, H⟩ := bind_some H
  have F := F.wri (fun q9 => (hL 38 (by decide))) eh3
  obtain rfl := Option.some.inj H
  exact F
def L_J7_fill_d0a16 : List Nat := []
theorem fb_J7_fill_d0a16_6 {W : Nat → Bool} (hL : ∀ c ∈ L_J7_fill_d0a16, W c = true) (a0 : Nat) (a1 : Int64) (a4 : Int32) (hw_a0 : W a0 = true) (s : (Int32 × Hp)) (out : (Int32 × Hp) ⊕ (Int32 × Hp)) (H : b_J7_fill_d0a16_6 a0 a1 a4 s = some out) : FW W ((fun s : (Int32 × Hp) => s.2) s) (Sum.elim (fun s : (Int32 × Hp) => s.2) (fun s : (Int32 × Hp) => s.2) out) := by
  unfold b_J7_fill_d0a16_6 at H
  have F := FW.refl W s.2
  rcases ite_e H with ⟨-, H⟩ | ⟨-, H⟩
  · obtain rfl := Option.some.inj H
    exact F
  · obtain ⟨h3, eh3, H⟩ := bind_some H
    have F := F.wrl (fun q9 => hw_a0) eh3
    obtain rfl := Option.some.inj H
    exact F
theorem fr_J7_fill_d0a16 {W : Nat → Bool} (hL : ∀ c ∈ L_J7_fill_d0a16, W c = true) (a0 : Nat) (a1 : Int64) (h : Hp) (hw_a0 : W a0 = true) (out : Hp) (H : f_J7_fill_d0a16 a0 a1 h = some out) : FW W h out := by
  unfold f_J7_fill_d0a16 at H
  have F := FW.refl W h
  obtain ⟨v1, -, H⟩ := bind_some H
  obtain ⟨a4, ha4, H⟩ := bind_some H
  have F := F.trans (iter_F (hs := (fun s : (Int32 × Hp) => s.2)) (ha := (fun s : (Int32 × Hp) => s.2)) (fun s9 o9 ho9 => fb_J7_fill_d0a16_6 hL a0 a1 v1 hw_a0 s9 o9 ho9) _ (0, h) _ ha4)
  obtain rfl := Option.some.inj H
  exact F
def L_X8_newWrong : List Nat := [53, 57, 58, 59, 60, 61]
theorem fr_X8_newWrong {W : Nat → Bool} (hL : ∀ c ∈ L_X8_newWrong, W c = true) (a1 : Int32) (a2 : Int32) (a3 : Int32) (h : Hp) (out : (Int32 × Hp)) (H : f_X8_newWrong a1 a2 a3 h = some out) : FW W h out.2 := by
  unfold f_X8_newWrong at H
  have F := FW.refl W h
  obtain ⟨h1, eh1, H⟩ := bind_some H
  have F := F.wri (fun q9 => (hL 57 (by decide))) eh1
  obtain ⟨h2, eh2, H⟩ := bind_some H
  have F := F.wri (fun q9 => (hL 58 (by decide))) eh2
  obtain ⟨h3, eh3, H⟩ := bind_some H
  have F := F.wri (fun q9 => (hL 59 (by decide))) eh3
  obtain ⟨h4, eh4, H⟩ := bind_some H
  have F := F.wri (fun q9 => (hL 60 (by decide))) eh4
  obtain ⟨h5, eh5, H⟩ := bind_some H
  have F := F.wri (fun q9 => (hL 61 (by decide))) eh5
  obtain ⟨h6, eh6, H⟩ := lt_e H
  have F := F.st (fun q9 => (hL 53 (by decide))) eh6
  obtain rfl := Option.some.inj H
  exact F
def L_X8_becomes : List Nat := [53, 54, 55, 56, 59, 60, 61]
theorem fr_X8_becomes {W : Nat → Bool} (hL : ∀ c ∈ L_X8_becomes, W c = true) (a1 : Int32) (a2 : Int32) (a3 : Int32) (h : Hp) (out : Hp) (H : f_X8_becomes a1 a2 a3 h = some out) : FW W h out := by
  unfold f_X8_becomes at H
  have F := FW.refl W h
  rcases ite_e H with ⟨-, H⟩ | ⟨-, H⟩
  · obtain ⟨h2, eh2, H⟩ := bind_some H
    have F := F.wri (fun q9 => (hL 54 (by decide))) eh2
    obtain rfl := Option.some.inj H
    exact F
  · rcases ite_e H with ⟨-, H⟩ | ⟨-, H⟩
    · obtain ⟨h4, eh4, H⟩ := bind_some H
      have F := F.wri (fun q9 => (hL 55 (by decide))) eh4
      obtain rfl := Option.some.inj H
      exact F
    · rcases ite_e H with ⟨-, H⟩ | ⟨-, H⟩
      · obtain ⟨h6, eh6, H⟩ := bind_some H
        have F := F.wri (fun q9 => (hL 56 (by decide))) eh6
        obtain rfl := Option.some.inj H
        exact F
      · rcases ite_e H with ⟨-, H⟩ | ⟨-, H⟩
        · obtain ⟨h8, eh8, H⟩ := bind_some H
          have F := F.wri (fun q9 => (hL 59 (by decide))) eh8
          obtain rfl := Option.some.inj H
          exact F
        · rcases ite_e H with ⟨-, H⟩ | ⟨-, H⟩
          · obtain ⟨h10, eh10, H⟩ := bind_some H
            have F := F.wri (fun q9 => (hL 60 (by decide))) eh10
            obtain rfl := Option.some.inj H
            exact F
          · rcases ite_e H with ⟨-, H⟩ | ⟨-, H⟩
            · obtain ⟨h12, eh12, H⟩ := bind_some H
              have F := F.wri (fun q9 => (hL 61 (by decide))) eh12
              obtain rfl := Option.some.inj H
              exact F
            · obtain ⟨h13, eh13, H⟩ := lt_e H
              have F := F.st (fun q9 => (hL 53 (by decide))) eh13
              obtain rfl := Option.some.inj H
              exact F
def L_X8_codes : List Nat := [53, 70]
theorem fr_X8_codes {W : Nat → Bool} (hL : ∀ c ∈ L_X8_codes, W c = true) (a1 : Int32) (h : Hp) (out : (Int32 × Hp)) (H : f_X8_codes a1 h = some out) : FW W h out.2 := by
  unfold f_X8_codes at H
  have F := FW.refl W h
  obtain ⟨h1, eh1, H⟩ := lt_e H
  have F := F.st (fun q9 => (hL 53 (by decide))) eh1
  obtain ⟨h2, eh2, H⟩ := bind_some H
  have F := F.wri (fun q9 => (hL 70 (by decide))) eh2
  obtain rfl := Option.some.inj H
  exact F
def L_X8_keeps : List Nat := []
theorem fb_X8_keeps_2 {W : Nat → Bool} (hL : ∀ c ∈ L_X8_keeps, W c = true) (a1 : Nat) (hw_a1 : W a1 = true) (s : (Int32 × Hp)) (out : (Int32 × Hp) ⊕ (Int32 × Hp)) (H : b_X8_keeps_2 a1 s = some out) : FW W ((fun s : (Int32 × Hp) => s.2) s) (Sum.elim (fun s : (Int32 × Hp) => s.2) (fun s : (Int32 × Hp) => s.2) out) := by
  unfold b_X8_keeps_2 at H
  have F := FW.refl W s.2
  rcases ite_e H with ⟨-, H⟩ | ⟨-, H⟩
  · obtain rfl := Option.some.inj H
    exact F
  · obtain ⟨v2, -, H⟩ := bind_some H
    obtain ⟨h3, eh3, H⟩ := bind_some H
    have F := F.wri (fun q9 => hw_a1) eh3
    obtain ⟨v4, -, H⟩ := bind_some H
    obtain ⟨h5, eh5, H⟩ := bind_some H
    have F := F.wri (fun q9 => hw_a1) eh5
    obtain ⟨v6, -, H⟩ := bind_some H
    obtain ⟨h7, eh7, H⟩ := bind_some H
    have F := F.wri (fun q9 => hw_a1) eh7
    obtain rfl := Option.some.inj H
    exact F
theorem fr_X8_keeps {W : Nat → Bool} (hL : ∀ c ∈ L_X8_keeps, W c = true) (a1 : Nat) (h : Hp) (hw_a1 : W a1 = true) (out : Hp) (H : f_X8_keeps a1 h = some out) : FW W h out := by
  unfold f_X8_keeps at H
  have F := FW.refl W h
  obtain ⟨a8, ha8, H⟩ := bind_some H
  have F := F.trans (iter_F (hs := (fun s : (Int32 × Hp) => s.2)) (ha := (fun s : (Int32 × Hp) => s.2)) (fun s9 o9 ho9 => fb_X8_keeps_2 hL a1 hw_a1 s9 o9 ho9) _ (0, h) _ ha8)
  obtain ⟨h9, eh9, H⟩ := bind_some H
  have F := F.wri (fun q9 => hw_a1) eh9
  obtain rfl := Option.some.inj H
  exact F
def L_X8_laysBack : List Nat := [53, 54, 60, 61]
theorem fb_X8_laysBack_2 {W : Nat → Bool} (hL : ∀ c ∈ L_X8_laysBack, W c = true) (a1 : Nat) (s : (Int32 × Hp)) (out : (Int32 × Hp) ⊕ (Int32 × Hp)) (H : b_X8_laysBack_2 a1 s = some out) : FW W ((fun s : (Int32 × Hp) => s.2) s) (Sum.elim (fun s : (Int32 × Hp) => s.2) (fun s : (Int32 × Hp) => s.2) out) := by
  unfold b_X8_laysBack_2 at H
  have F := FW.refl W s.2
  rcases ite_e H with ⟨-, H⟩ | ⟨-, H⟩
  · obtain rfl := Option.some.inj H
    exact F
  · obtain ⟨v2, -, H⟩ := bind_some H
    obtain ⟨h3, eh3, H⟩ := bind_some H
    have F := F.wri (fun q9 => (hL 54 (by decide))) eh3
    obtain ⟨v4, -, H⟩ := bind_some H
    obtain ⟨h5, eh5, H⟩ := bind_some H
    have F := F.wri (fun q9 => (hL 61 (by decide))) eh5
    obtain ⟨v6, -, H⟩ := bind_some H
    obtain ⟨h7, eh7, H⟩ := bind_some H
    have F := F.wri (fun q9 => (hL 60 (by decide))) eh7
    obtain rfl := Option.some.inj H
    exact F
theorem fr_X8_laysBack {W : Nat → Bool} (hL : ∀ c ∈ L_X8_laysBack, W c = true) (a1 : Nat) (h : Hp) (out : Hp) (H : f_X8_laysBack a1 h = some out) : FW W h out := by
  unfold f_X8_laysBack at H
  have F := FW.refl W h
  obtain ⟨a8, ha8, H⟩ := bind_some H
  have F := F.trans (iter_F (hs := (fun s : (Int32 × Hp) => s.2)) (ha := (fun s : (Int32 × Hp) => s.2)) (fun s9 o9 ho9 => fb_X8_laysBack_2 hL a1 s9 o9 ho9) _ (0, h) _ ha8)
  obtain ⟨v9, -, H⟩ := bind_some H
  obtain ⟨h10, eh10, H⟩ := lt_e H
  have F := F.st (fun q9 => (hL 53 (by decide))) eh10
  obtain rfl := Option.some.inj H
  exact F
def L_X8_passes : List Nat := [53]
theorem fr_X8_passes {W : Nat → Bool} (hL : ∀ c ∈ L_X8_passes, W c = true) (h : Hp) (out : Hp) (H : f_X8_passes h = some out) : FW W h out := by
  unfold f_X8_passes at H
  have F := FW.refl W h
  rcases ite_e H with ⟨-, H⟩ | ⟨-, H⟩
  · obtain rfl := Option.some.inj H
    exact F
  · obtain ⟨h2, eh2, H⟩ := lt_e H
    have F := F.st (fun q9 => (hL 53 (by decide))) eh2
    obtain rfl := Option.some.inj H
    exact F
def L_X8_back : List Nat := [53, 54, 60, 61, 73]
theorem fb_X8_back_12 {W : Nat → Bool} (hL : ∀ c ∈ L_X8_back, W c = true) (s : (Int32 × Hp)) (out : (Int32 × Hp) ⊕ (Int32 × Hp)) (H : b_X8_back_12 s = some out) : FW W ((fun s : (Int32 × Hp) => s.2) s) (Sum.elim (fun s : (Int32 × Hp) => s.2) (fun s : (Int32 × Hp) => s.2) out) := by
  unfold b_X8_back_12 at H
  have F := FW.refl W s.2
  rcases ite_e H with ⟨-, H⟩ | ⟨-, H⟩
  · obtain rfl := Option.some.inj H
    exact F
  · obtain ⟨v3, -, H⟩ := bind_some H
    obtain ⟨h4, eh4, H⟩ := bind_some H
    have F := F.wri (fun q9 => (hL 54 (by decide))) eh4
    obtain rfl := Option.some.inj H
    exact F
theorem fb_X8_back_38 {W : Nat → Bool} (hL : ∀ c ∈ L_X8_back, W c = true) (s : (Int32 × Hp)) (out : (Int32 × Hp) ⊕ (Int32 × Hp)) (H : b_X8_back_38 s = some out) : FW W ((fun s : (Int32 × Hp) => s.2) s) (Sum.elim (fun s : (Int32 × Hp) => s.2) (fun s : (Int32 × Hp) => s.2) out) := by
  unfold b_X8_back_38 at H
  have F := FW.refl W s.2
  rcases ite_e H with ⟨-, H⟩ | ⟨-, H⟩
  · obtain rfl := Option.some.inj H
    exact F
  · obtain ⟨v7, -, H⟩ := bind_some H
    obtain ⟨h8, eh8, H⟩ := bind_some H
    have F := F.wri (fun q9 => (hL 61 (by decide))) eh8
    obtain ⟨v9, -, H⟩ := bind_some H
    obtain ⟨h10, eh10, H⟩ := bind_some H
    have F := F.wri (fun q9 => (hL 60 (by decide))) eh10
    obtain rfl := Option.some.inj H
    exact F
theorem fb_X8_back_95 {W : Nat → Bool} (hL : ∀ c ∈ L_X8_back, W c = true) (s : (Int32 × Hp)) (out : (Int32 × Hp) ⊕ (Int32 × Hp)) (H : b_X8_back_95 s = some out) : FW W ((fun s : (Int32 × Hp) => s.2) s) (Sum.elim (fun s : (Int32 × Hp) => s.2) (fun s : (Int32 × Hp) => s.2) out) := by
  unfold b_X8_back_95 at H
  have F := FW.refl W s.2
  rcases ite_e H with ⟨-, H⟩ | ⟨-, H⟩
  · obtain rfl := Option.some.inj H
    exact F
  · obtain ⟨v15, -, H⟩ := bind_some H
    obtain ⟨h16, eh16, H⟩ := bind_some H
    have F := F.wri (fun q9 => (hL 73 (by decide))) eh16
    obtain rfl := Option.some.inj H
    exact F
theorem fr_X8_back {W : Nat → Bool} (hL : ∀ c ∈ L_X8_back, W c = true) (h : Hp) (out : (Int32 × Hp)) (H : f_X8_back h = some out) : FW W h out.2 := by
  unfold f_X8_back at H
  have F := FW.refl W h
  rcases ite_e H with ⟨-, H⟩ | ⟨-, H⟩
  · obtain rfl := Option.some.inj H
    exact F
  · obtain ⟨a5, ha5, H⟩ := bind_some H
    have F := F.trans (iter_F (hs := (fun s : (Int32 × Hp) => s.2)) (ha := (fun s : (Int32 × Hp) => s.2)) (fun s9 o9 ho9 => fb_X8_back_12 hL s9 o9 ho9) _ (0, h) _ ha5)
    obtain ⟨a11, ha11, H⟩ := bind_some H
    have F := F.trans (iter_F (hs := (fun s : (Int32 × Hp) => s.2)) (ha := (fun s : (Int32 × Hp) => s.2)) (fun s9 o9 ho9 => fb_X8_back_38 hL s9 o9 ho9) _ (0, a5.2) _ ha11)
    obtain ⟨v12, -, H⟩ := bind_some H
    obtain ⟨h13, eh13, H⟩ := lt_e H
    have F := F.st (fun q9 => (hL 53 (by decide))) eh13
    obtain ⟨a17, ha17, H⟩ := bind_some H
    have F := F.trans (iter_F (hs := (fun s : (Int32 × Hp) => s.2)) (ha := (fun s : (Int32 × Hp) => s.2)) (fun s9 o9 ho9 => fb_X8_back_95 hL s9 o9 ho9) _ (0, h13) _ ha17)
    obtain ⟨v18, -, H⟩ := bind_some H
    obtain rfl := Option.some.inj H
    exact F
def L_X8_ran : List Nat := [53, 78]
theorem fr_X8_ran {W : Nat → Bool} (hL : ∀ c ∈ L_X8_ran, W c = true) (a1 : Int32) (h : Hp) (out : Hp) (H : f_X8_ran a1 h = some out) : FW W h out := by
  unfold f_X8_ran at H
  have F := FW.refl W h
  rcases ite_e H with ⟨-, H⟩ | ⟨-, H⟩
  · obtain ⟨h2, eh2, H⟩ := lt_e H
    have F := F.st (fun q9 => (hL 53 (by decide))) eh2
    obtain rfl := Option.some.inj H
    exact F
  · obtain ⟨h3, eh3, H⟩ := bind_some H
    have F := F.wri (fun q9 => (hL 78 (by decide))) eh3
    obtain ⟨h4, eh4, H⟩ := lt_e H
    have F := F.st (fun q9 => (hL 53 (by decide))) eh4
    obtain rfl := Option.some.inj H
    exact F
def L_X7_person : List Nat := [1, 2, 3]
theorem fr_X7_person {W : Nat → Bool} (hL : ∀ c ∈ L_X7_person, W c = true) (a1 : Int32) (h : Hp) (out : (Int32 × Hp)) (H : f_X7_person a1 h = some out) : FW W h out.2 := by
  unfold f_X7_person at H
  have F := FW.refl W h
  obtain ⟨r1, hr1, H⟩ := bind_some H
  rcases ite_e H with ⟨-, H⟩ | ⟨-, H⟩
  · obtain rfl := Option.some.inj H
    exact F
  · rcases ite_e H with ⟨-, H⟩ | ⟨-, H⟩
    · obtain rfl := Option.some.inj H
      exact F
    · obtain ⟨r4, hr4, H⟩ := bind_some H
      have F := F.trans (fr_X3_settle (sub_L hL (by decide)) a1 h _ hr4)
      obtain rfl := Option.some.inj H
      exact F
def L_X7_addWrong : List Nat := [1, 4, 5, 6, 15]
theorem fr_X7_addWrong {W : Nat → Bool} (hL : ∀ c ∈ L_X7_addWrong, W c = true) (a1 : Int32) (a2 : Int32) (a3 : Int32) (h : Hp) (out : (Int32 × Hp)) (H : f_X7_addWrong a1 a2 a3 h = some out) : FW W h out.2 := by
  unfold f_X7_addWrong at H
  have F := FW.refl W h
  obtain ⟨r1, hr1, H⟩ := bind_some H
  have F := F.trans (fr_X3_offend (sub_L hL (by decide)) a1 a2 a3 h _ hr1)
  obtain ⟨h2, eh2, H⟩ := bind_some H
  have F := F.wri (fun q9 => (hL 15 (by decide))) eh2
  obtain rfl := Option.some.inj H
  exact F
def L_X7_setValue : List Nat := [2, 3, 6, 13, 14, 15]
theorem fr_X7_setValue {W : Nat → Bool} (hL : ∀ c ∈ L_X7_setValue, W c = true) (a1 : Int32) (a2 : Int32) (a3 : Int32) (h : Hp) (out : Hp) (H : f_X7_setValue a1 a2 a3 h = some out) : FW W h out := by
  unfold f_X7_setValue at H
  have F := FW.refl W h
  rcases ite_e H with ⟨-, H⟩ | ⟨-, H⟩
  · obtain ⟨h2, eh2, H⟩ := bind_some H
    have F := F.wri (fun q9 => (hL 14 (by decide))) eh2
    obtain rfl := Option.some.inj H
    exact F
  · rcases ite_e H with ⟨-, H⟩ | ⟨-, H⟩
    · obtain ⟨h4, eh4, H⟩ := bind_some H
      have F := F.wri (fun q9 => (hL 2 (by decide))) eh4
      obtain rfl := Option.some.inj H
      exact F
    · rcases ite_e H with ⟨-, H⟩ | ⟨-, H⟩
      · obtain ⟨h6, eh6, H⟩ := bind_some H
        have F := F.wri (fun q9 => (hL 3 (by decide))) eh6
        obtain rfl := Option.some.inj H
        exact F
      · rcases ite_e H with ⟨-, H⟩ | ⟨-, H⟩
        · obtain ⟨h8, eh8, H⟩ := bind_some H
          have F := F.wri (fun q9 => (hL 6 (by decide))) eh8
          obtain rfl := Option.some.inj H
          exact F
        · rcases ite_e H with ⟨-, H⟩ | ⟨-, H⟩
          · obtain ⟨h10, eh10, H⟩ := bind_some H
            have F := F.wri (fun q9 => (hL 15 (by decide))) eh10
            obtain rfl := Option.some.inj H
            exact F
          · rcases ite_e H with ⟨-, H⟩ | ⟨-, H⟩
            · rcases ite_e H with ⟨-, H⟩ | ⟨-, H⟩
              · obtain ⟨r13, hr13, H⟩ := bind_some H
                have F := F.trans (fr_X5_setForgiven (sub_L hL (by decide)) 13 a1 0 h (hL 13 (by decide)) _ hr13)
                obtain rfl := Option.some.inj H
                exact F
              · obtain ⟨r14, hr14, H⟩ := bind_some H
                have F := F.trans (fr_X5_setForgiven (sub_L hL (by decide)) 13 a1 1 h (hL 13 (by decide)) _ hr14)
                obtain rfl := Option.some.inj H
                exact F
            · obtain ⟨h15, eh15, H⟩ := lt_e H
              have F := F.st (fun q9 => (hL 13 (by decide))) eh15
              obtain rfl := Option.some.inj H
              exact F
def L_X0_dropOldest : List Nat := [25, 26, 27, 28, 29]
theorem fr_X0_dropOldest {W : Nat → Bool} (hL : ∀ c ∈ L_X0_dropOldest, W c = true) (h : Hp) (out : Hp) (H : f_X0_dropOldest h = some out) : FW W h out := by
  unfold f_X0_dropOldest at H
  have F := FW.refl W h
  obtain ⟨h1, eh1, H⟩ := bind_some H
  have F := F.cpi (fun q9 => (hL 26 (by decide))) eh1
  obtain ⟨h2, eh2, H⟩ := bind_some H
  have F := F.cpi (fun q9 => (hL 27 (by decide))) eh2
  obtain ⟨h3, eh3, H⟩ := bind_some H
  have F := F.cpi (fun q9 => (hL 28 (by decide))) eh3
  obtain ⟨h4, eh4, H⟩ := bind_some H
  have F := F.cpi (fun q9 => (hL 29 (by decide))) eh4
  obtain ⟨h5, eh5, H⟩ := lt_e H
  have F := F.st (fun q9 => (hL 25 (by decide))) eh5
  obtain rfl := Option.some.inj H
  exact F
def L_X7_feed : List Nat := [7, 8]
theorem fr_X7_feed {W : Nat → Bool} (hL : ∀ c ∈ L_X7_feed, W c = true) (a1 : Int32) (h : Hp) (out : (Int32 × Hp)) (H : f_X7_feed a1 h = some out) : FW W h out.2 := by
  unfold f_X7_feed at H
  have F := FW.refl W h
  rcases ite_e H with ⟨-, H⟩ | ⟨-, H⟩
  · obtain rfl := Option.some.inj H
    exact F
  · rcases ite_e H with ⟨-, H⟩ | ⟨-, H⟩
    · obtain ⟨r3, hr3, H⟩ := bind_some H
      have F := F.trans (fr_X4_take (sub_L hL (by decide)) a1 h _ hr3)
      obtain rfl := Option.some.inj H
      exact F
    · obtain rfl := Option.some.inj H
      exact F
def L_X4_readNumber : List Nat := [7, 9, 10]
theorem fb_X4_readNumber_4 {W : Nat → Bool} (hL : ∀ c ∈ L_X4_readNumber, W c = true) (s : (Int32 × Int32 × Hp)) (out : (Int32 × Int32 × Hp) ⊕ (Int32 × Int32 × Hp)) (H : b_X4_readNumber_4 s = some out) : FW W ((fun s : (Int32 × Int32 × Hp) => s.2.2) s) (Sum.elim (fun s : (Int32 × Int32 × Hp) => s.2.2) (fun s : (Int32 × Int32 × Hp) => s.2.2) out) := by
  unfold b_X4_readNumber_4 at H
  have F := FW.refl W s.2.2
  rcases ite_e H with ⟨-, H⟩ | ⟨-, H⟩
  · obtain rfl := Option.some.inj H
    exact F
  · obtain ⟨r2, hr2, H⟩ := bind_some H
    obtain ⟨r3, hr3, H⟩ := bind_some H
    rcases ite_e H with ⟨-, H⟩ | ⟨-, H⟩
    · obtain rfl := Option.some.inj H
      exact F
    · obtain ⟨r5, hr5, H⟩ := bind_some H
      obtain ⟨h6, eh6, H⟩ := lt_e H
      have F := F.st (fun q9 => (hL 7 (by decide))) eh6
      obtain rfl := Option.some.inj H
      exact F
theorem fr_X4_readNumber {W : Nat → Bool} (hL : ∀ c ∈ L_X4_readNumber, W c = true) (h : Hp) (out : (Int32 × Hp)) (H : f_X4_readNumber h = some out) : FW W h out.2 := by
  unfold f_X4_readNumber at H
  have F := FW.refl W h
  obtain ⟨a7, ha7, H⟩ := bind_some H
  have F := F.trans (iter_F (hs := (fun s : (Int32 × Int32 × Hp) => s.2.2)) (ha := (fun s : (Int32 × Int32 × Hp) => s.2.2)) (fun s9 o9 ho9 => fb_X4_readNumber_4 hL s9 o9 ho9) _ (0, 0, h) _ ha7)
  obtain ⟨r8, hr8, H⟩ := bind_some H
  have F := F.trans (fr_X4_emit (sub_L hL (by decide)) a7.1 a7.2.2 _ hr8)
  obtain rfl := Option.some.inj H
  exact F
def L_X4_worth : List Nat := [12]
theorem fb_X4_worth_44 {W : Nat → Bool} (hL : ∀ c ∈ L_X4_worth, W c = true) (s : (Int32 × Int32 × Int32 × Hp)) (out : (Int32 × Int32 × Int32 × Hp) ⊕ ((Int32 × Int32 × Int32 × Hp) ⊕ (Int32 × Hp))) (H : b_X4_worth_44 s = some out) : FW W ((fun s : (Int32 × Int32 × Int32 × Hp) => s.2.2.2) s) (Sum.elim (fun s : (Int32 × Int32 × Int32 × Hp) => s.2.2.2) (Sum.elim (fun s : (Int32 × Int32 × Int32 × Hp) => s.2.2.2) (fun r : (Int32 × Hp) => r.2)) out) := by
  unfold b_X4_worth_44 at H
  have F := FW.refl W s.2.2.2
  rcases ite_e H with ⟨-, H⟩ | ⟨-, H⟩
  · obtain rfl := Option.some.inj H
    exact F
  · obtain ⟨v3, -, H⟩ := bind_some H
    rcases ite_e H with ⟨-, H⟩ | ⟨-, H⟩
    · rcases ite_e H with ⟨-, H⟩ | ⟨-, H⟩
      · rcases ite_e H with ⟨-, H⟩ | ⟨-, H⟩
        · obtain ⟨v7, -, H⟩ := bind_some H
          rcases ite_e H with ⟨-, H⟩ | ⟨-, H⟩
          · obtain ⟨r21, hr21, H⟩ := bind_some H
            obtain rfl := Option.some.inj H
            exact F
          · rcases ite_e H with ⟨-, H⟩ | ⟨-, H⟩
            · rcases ite_e H with ⟨-, H⟩ | ⟨-, H⟩
              · obtain ⟨h20, eh20, H⟩ := bind_some H
                have F := F.wri (fun q9 => (hL 12 (by decide))) eh20
                obtain rfl := Option.some.inj H
                exact F
              · obtain ⟨h19, eh19, H⟩ := bind_some H
                have F := F.wri (fun q9 => (hL 12 (by decide))) eh19
                obtain rfl := Option.some.inj H
                exact F
            · rcases ite_e H with ⟨-, H⟩ | ⟨-, H⟩
              · obtain ⟨h17, eh17, H⟩ := bind_some H
                have F := F.wri (fun q9 => (hL 12 (by decide))) eh17
                obtain rfl := Option.some.inj H
                exact F
              · rcases ite_e H with ⟨-, H⟩ | ⟨-, H⟩
                · rcases ite_e H with ⟨-, H⟩ | ⟨-, H⟩
                  · obtain rfl := Option.some.inj H
                    exact F
                  · obtain rfl := Option.some.inj H
                    exact F
                · rcases ite_e H with ⟨-, H⟩ | ⟨-, H⟩
                  · obtain ⟨v13, -, H⟩ := bind_some H
                    obtain ⟨r14, hr14, H⟩ := bind_some H
                    obtain ⟨h15, eh15, H⟩ := bind_some H
                    have F := F.wri (fun q9 => (hL 12 (by decide))) eh15
                    obtain rfl := Option.some.inj H
                    exact F
                  · obtain rfl := Option.some.inj H
                    exact F
        · obtain rfl := Option.some.inj H
          exact F
      · obtain ⟨v22, -, H⟩ := bind_some H
        rcases ite_e H with ⟨-, H⟩ | ⟨-, H⟩
        · rcases ite_e H with ⟨-, H⟩ | ⟨-, H⟩
          · obtain ⟨h25, eh25, H⟩ := bind_some H
            have F := F.wri (fun q9 => (hL 12 (by decide))) eh25
            obtain rfl := Option.some.inj H
            exact F
          · obtain ⟨v26, -, H⟩ := bind_some H
            obtain ⟨h27, eh27, H⟩ := bind_some H
            have F := F.wri (fun q9 => (hL 12 (by decide))) eh27
            obtain rfl := Option.some.inj H
            exact F
        · obtain rfl := Option.some.inj H
          exact F
    · rcases ite_e H with ⟨-, H⟩ | ⟨-, H⟩
      · obtain rfl := Option.some.inj H
        exact F
      · obtain rfl := Option.some.inj H
        exact F
theorem fr_X4_worth {W : Nat → Bool} (hL : ∀ c ∈ L_X4_worth, W c = true) (h : Hp) (out : (Int32 × Hp)) (H : f_X4_worth h = some out) : FW W h out.2 := by
  unfold f_X4_worth at H
  have F := FW.refl W h
  rcases ite_e H with ⟨-, H⟩ | ⟨-, H⟩
  · obtain ⟨v30, -, H⟩ := bind_some H
    obtain ⟨v31, -, H⟩ := bind_some H
    obtain ⟨v32, -, H⟩ := bind_some H
    obtain ⟨r33, hr33, H⟩ := bind_some H
    obtain rfl := Option.some.inj H
    exact F
  · obtain ⟨a29o, ha29, hca29⟩ := it_R H
    have F := F.trans (iter_F (hs := (fun s : (Int32 × Int32 × Int32 × Hp) => s.2.2.2)) (ha := (Sum.elim (fun s : (Int32 × Int32 × Int32 × Hp) => s.2.2.2) (fun r : (Int32 × Hp) => r.2))) (fun s9 o9 ho9 => fb_X4_worth_44 hL s9 o9 ho9) _ (0, 0, 0, h) _ ha29)
    rcases hca29 with ⟨a29, rfl, H⟩ | ⟨r, rfl, H⟩
    · obtain rfl := Option.some.inj H
      exact F
    · obtain rfl := Option.some.inj H
      exact F
def L_X5_becomeUpTo : List Nat := []
theorem fr_X5_becomeUpTo {W : Nat → Bool} (hL : ∀ c ∈ L_X5_becomeUpTo, W c = true) (o : Nat) (a1 : Nat) (a2 : Int32) (h : Hp) (hw_o_0 : W (pf o 0) = true) (hw_o_1 : W (pf o 1) = true) (hw_o_2 : W (pf o 2) = true) (hw_o : W o = true) (out : Hp) (H : f_X5_becomeUpTo o a1 a2 h = some out) : FW W h out := by
  unfold f_X5_becomeUpTo at H
  have F := FW.refl W h
  obtain ⟨hgo, H⟩ := gd_some H
  obtain ⟨hga1, H⟩ := gd_some H
  obtain ⟨h1, eh1, H⟩ := bind_some H
  have F := F.cpi (fun q9 => hw_o_0) eh1
  obtain ⟨h2, eh2, H⟩ := bind_some H
  have F := F.cpi (fun q9 => hw_o_1) eh2
  obtain ⟨v3, -, H⟩ := bind_some H
  obtain ⟨h4, eh4, H⟩ := bind_some H
  have F := F.cpi (fun q9 => hw_o_2) eh4
  obtain ⟨h5, eh5, H⟩ := lt_e H
  have F := F.st (fun q9 => hw_o) eh5
  obtain ⟨h6, eh6, H⟩ := lt_e H
  have F := F.st (fun q9 => hw_o) eh6
  obtain rfl := Option.some.inj H
  exact F
def L_X7_run : List Nat := [50, 51]
theorem fr_X7_run {W : Nat → Bool} (hL : ∀ c ∈ L_X7_run, W c = true) (a1 : Int32) (h : Hp) (out : (Int32 × Hp)) (H : f_X7_run a1 h = some out) : FW W h out.2 := by
  unfold f_X7_run at H
  have F := FW.refl W h
  rcases ite_e H with ⟨-, H⟩ | ⟨-, H⟩
  · obtain rfl := Option.some.inj H
    exact F
  · rcases ite_e H with ⟨-, H⟩ | ⟨-, H⟩
    · obtain ⟨r3, hr3, H⟩ := bind_some H
      have F := F.trans (fr_X7_longestRise (sub_L hL (by decide)) h _ hr3)
      rcases ite_e H with ⟨-, H⟩ | ⟨-, H⟩
      · obtain ⟨v6, -, H⟩ := bind_some H
        obtain rfl := Option.some.inj H
        exact F
      · obtain ⟨v5, -, H⟩ := bind_some H
        obtain rfl := Option.some.inj H
        exact F
    · obtain rfl := Option.some.inj H
      exact F
def L_X7_ring : List Nat := [52]
theorem fb_X7_ring_10 {W : Nat → Bool} (hL : ∀ c ∈ L_X7_ring, W c = true) (s : (Int32 × Hp)) (out : (Int32 × Hp) ⊕ (Int32 × Hp)) (H : b_X7_ring_10 s = some out) : FW W ((fun s : (Int32 × Hp) => s.2) s) (Sum.elim (fun s : (Int32 × Hp) => s.2) (fun s : (Int32 × Hp) => s.2) out) := by
  unfold b_X7_ring_10 at H
  have F := FW.refl W s.2
  rcases ite_e H with ⟨-, H⟩ | ⟨-, H⟩
  · obtain rfl := Option.some.inj H
    exact F
  · obtain ⟨r3, hr3, H⟩ := bind_some H
    rcases ite_e H with ⟨-, H⟩ | ⟨-, H⟩
    · obtain ⟨v5, -, H⟩ := bind_some H
      obtain ⟨v6, -, H⟩ := bind_some H
      obtain ⟨v7, -, H⟩ := bind_some H
      obtain ⟨h8, eh8, H⟩ := bind_some H
      have F := F.wri (fun q9 => (hL 52 (by decide))) eh8
      obtain rfl := Option.some.inj H
      exact F
    · obtain rfl := Option.some.inj H
      exact F
theorem fr_X7_ring {W : Nat → Bool} (hL : ∀ c ∈ L_X7_ring, W c = true) (h : Hp) (out : (Int32 × Hp)) (H : f_X7_ring h = some out) : FW W h out.2 := by
  unfold f_X7_ring at H
  have F := FW.refl W h
  obtain ⟨r1, hr1, H⟩ := bind_some H
  have F := F.trans (fr_J7_fill_53178 (sub_L hL (by decide)) 52 0 h (hL 52 (by decide)) _ hr1)
  obtain ⟨a9, ha9, H⟩ := bind_some H
  have F := F.trans (iter_F (hs := (fun s : (Int32 × Hp) => s.2)) (ha := (fun s : (Int32 × Hp) => s.2)) (fun s9 o9 ho9 => fb_X7_ring_10 hL s9 o9 ho9) _ (0, r1) _ ha9)
  obtain ⟨a14, ha14, H⟩ := bind_some H
  rcases ite_e H with ⟨-, H⟩ | ⟨-, H⟩
  · obtain rfl := Option.some.inj H
    exact F
  · obtain rfl := Option.some.inj H
    exact F
def L_X5_doAgain : List Nat := []
theorem fr_X5_doAgain {W : Nat → Bool} (hL : ∀ c ∈ L_X5_doAgain, W c = true) (o : Nat) (a1 : Int32) (h : Hp) (hw_o : W o = true) (hw_o_1 : W (pf o 1) = true) (out : Hp) (H : f_X5_doAgain o a1 h = some out) : FW W h out := by
  unfold f_X5_doAgain at H
  have F := FW.refl W h
  obtain ⟨hgo, H⟩ := gd_some H
  obtain ⟨r1, hr1, H⟩ := bind_some H
  have F := F.trans (fr_X5_setForgiven (sub_L hL (by decide)) o a1 0 h hw_o _ hr1)
  obtain ⟨h2, eh2, H⟩ := bind_some H
  have F := F.wri (fun q9 => hw_o_1) eh2
  obtain rfl := Option.some.inj H
  exact F
def L_X5_pass : List Nat := []
theorem fr_X5_pass {W : Nat → Bool} (hL : ∀ c ∈ L_X5_pass, W c = true) (o : Nat) (a1 : Int32) (h : Hp) (hw_o : W o = true) (out : Hp) (H : f_X5_pass o a1 h = some out) : FW W h out := by
  unfold f_X5_pass at H
  have F := FW.refl W h
  obtain ⟨hgo, H⟩ := gd_some H
  obtain ⟨h1, eh1, H⟩ := lt_e H
  have F := F.st (fun q9 => hw_o) eh1
  obtain rfl := Option.some.inj H
  exact F
def L_X7_slam : List Nat := [14, 16]
theorem fr_X7_slam {W : Nat → Bool} (hL : ∀ c ∈ L_X7_slam, W c = true) (a1 : Int32) (h : Hp) (out : (Int32 × Hp)) (H : f_X7_slam a1 h = some out) : FW W h out.2 := by
  unfold f_X7_slam at H
  have F := FW.refl W h
  obtain ⟨r1, hr1, H⟩ := bind_some H
  rcases ite_e H with ⟨-, H⟩ | ⟨-, H⟩
  · obtain rfl := Option.some.inj H
    exact F
  · obtain ⟨v3, -, H⟩ := bind_some H
    obtain ⟨h4, eh4, H⟩ := bind_some H
    have F := F.wri (fun q9 => (hL 14 (by decide))) eh4
    obtain ⟨v5, -, H⟩ := bind_some H
    obtain ⟨h6, eh6, H⟩ := bind_some H
    have F := F.wri (fun q9 => (hL 16 (by decide))) eh6
    obtain ⟨v7, -, H⟩ := bind_some H
    obtain rfl := Option.some.inj H
    exact F
def L_X7_body : List Nat := [41, 42]
theorem fr_X7_body {W : Nat → Bool} (hL : ∀ c ∈ L_X7_body, W c = true) (a1 : Int32) (h : Hp) (out : (Int32 × Hp)) (H : f_X7_body a1 h = some out) : FW W h out.2 := by
  unfold f_X7_body at H
  have F := FW.refl W h
  obtain ⟨r1, hr1, H⟩ := bind_some H
  rcases ite_e H with ⟨-, H⟩ | ⟨-, H⟩
  · obtain rfl := Option.some.inj H
    exact F
  · obtain ⟨r3, hr3, H⟩ := bind_some H
    have F := F.trans (fr_X1_add (sub_L hL (by decide)) a1 h _ hr3)
    obtain rfl := Option.some.inj H
    exact F
def L_X7_keep : List Nat := [38, 39, 40]
theorem fr_X7_keep {W : Nat → Bool} (hL : ∀ c ∈ L_X7_keep, W c = true) (a1 : Int32) (a2 : Int32) (h : Hp) (out : (Int32 × Hp)) (H : f_X7_keep a1 a2 h = some out) : FW W h out.2 := by
  unfold f_X7_keep at H
  have F := FW.refl W h
  obtain ⟨r1, hr1, H⟩ := bind_some H
  rcases ite_e H with ⟨-, H⟩ | ⟨-, H⟩
  · obtain rfl := Option.some.inj H
    exact F
  · rcases ite_e H with ⟨-, H⟩ | ⟨-, H⟩
    · obtain ⟨r7, hr7, H⟩ := bind_some H
      have F := F.trans (fr_X6_setEmpty (sub_L hL (by decide)) a1 h _ hr7)
      obtain rfl := Option.some.inj H
      exact F
    · obtain ⟨r4, hr4, H⟩ := bind_some H
      rcases ite_e H with ⟨-, H⟩ | ⟨-, H⟩
      · obtain rfl := Option.some.inj H
        exact F
      · obtain ⟨r6, hr6, H⟩ := bind_some H
        have F := F.trans (fr_X6_setDoor (sub_L hL (by decide)) a1 a2 h _ hr6)
        obtain rfl := Option.some.inj H
        exact F
def L_X6_setRow : List Nat := [32, 33, 34, 35, 36, 37, 38, 39]
theorem fr_X6_setRow {W : Nat → Bool} (hL : ∀ c ∈ L_X6_setRow, W c = true) (a1 : Int32) (a2 : Int32) (a3 : Int32) (h : Hp) (out : Hp) (H : f_X6_setRow a1 a2 a3 h = some out) : FW W h out := by
  unfold f_X6_setRow at H
  have F := FW.refl W h
  obtain ⟨h1, eh1, H⟩ := bind_some H
  have F := F.wri (fun q9 => (hL 39 (by decide))) eh1
  obtain ⟨h2, eh2, H⟩ := bind_some H
  have F := F.wri (fun q9 => (hL 38 (by decide))) eh2
  obtain ⟨v3, hvv3, H⟩ := bind_some H
  obtain ⟨r4, hr4, H⟩ := bind_some H
  have F := F.trans (fr_J7_fill_d0a16 (sub_L hL (by decide)) v3 0 h2 (rdR_W hvv3 (sub_L hL (by decide))) _ hr4)
  obtain rfl := Option.some.inj H
  exact F
def L_X6_store : List Nat := [32, 33, 34, 35, 36, 37]
theorem fr_X6_store {W : Nat → Bool} (hL : ∀ c ∈ L_X6_store, W c = true) (a1 : Int32) (a2 : Int32) (a3 : Int64) (h : Hp) (out : Hp) (H : f_X6_store a1 a2 a3 h = some out) : FW W h out := by
  unfold f_X6_store at H
  have F := FW.refl W h
  obtain ⟨v1, hvv1, H⟩ := bind_some H
  obtain ⟨v2, -, H⟩ := bind_some H
  obtain ⟨r3, hr3, H⟩ := bind_some H
  obtain ⟨h4, eh4, H⟩ := bind_some H
  have F := F.wrl (fun q9 => (rdR_W hvv1 (sub_L hL (by decide)))) eh4
  obtain rfl := Option.some.inj H
  exact F
def L_X6_copyPart : List Nat := [32, 33, 34, 35, 36, 37]
theorem fr_X6_copyPart {W : Nat → Bool} (hL : ∀ c ∈ L_X6_copyPart, W c = true) (a1 : Int32) (a2 : Int32) (a3 : Int32) (a4 : Int32) (a5 : Int32) (h : Hp) (out : Hp) (H : f_X6_copyPart a1 a2 a3 a4 a5 h = some out) : FW W h out := by
  unfold f_X6_copyPart at H
  have F := FW.refl W h
  obtain ⟨v1, hvv1, H⟩ := bind_some H
  obtain ⟨v2, hvv2, H⟩ := bind_some H
  obtain ⟨h3, eh3, H⟩ := bind_some H
  have F := F.cpl (fun q9 => (rdR_W hvv2 (sub_L hL (by decide)))) eh3
  obtain rfl := Option.some.inj H
  exact F
def L_X8_undo : List Nat := [53, 54, 55, 56, 59, 60, 61]
theorem fr_X8_undo {W : Nat → Bool} (hL : ∀ c ∈ L_X8_undo, W c = true) (h : Hp) (out : (Int32 × Hp)) (H : f_X8_undo h = some out) : FW W h out.2 := by
  unfold f_X8_undo at H
  have F := FW.refl W h
  rcases ite_e H with ⟨-, H⟩ | ⟨-, H⟩
  · obtain rfl := Option.some.inj H
    exact F
  · obtain ⟨h2, eh2, H⟩ := lt_e H
    have F := F.st (fun q9 => (hL 53 (by decide))) eh2
    obtain ⟨v3, -, H⟩ := bind_some H
    obtain ⟨v4, -, H⟩ := bind_some H
    obtain ⟨v5, -, H⟩ := bind_some H
    obtain ⟨r6, hr6, H⟩ := bind_some H
    have F := F.trans (fr_X8_becomes (sub_L hL (by decide)) v3 v4 v5 h2 _ hr6)
    obtain rfl := Option.some.inj H
    exact F
def L_X8_redo : List Nat := [53, 54, 55, 56, 59, 60, 61]
theorem fr_X8_redo {W : Nat → Bool} (hL : ∀ c ∈ L_X8_redo, W c = true) (h : Hp) (out : (Int32 × Hp)) (H : f_X8_redo h = some out) : FW W h out.2 := by
  unfold f_X8_redo at H
  have F := FW.refl W h
  rcases ite_e H with ⟨-, H⟩ | ⟨-, H⟩
  · obtain rfl := Option.some.inj H
    exact F
  · obtain ⟨v2, -, H⟩ := bind_some H
    obtain ⟨v3, -, H⟩ := bind_some H
    obtain ⟨v4, -, H⟩ := bind_some H
    obtain ⟨r5, hr5, H⟩ := bind_some H
    have F := F.trans (fr_X8_becomes (sub_L hL (by decide)) v2 v3 v4 h _ hr5)
    obtain ⟨h6, eh6, H⟩ := lt_e H
    have F := F.st (fun q9 => (hL 53 (by decide))) eh6
    obtain rfl := Option.some.inj H
    exact F
def L_X8_feed : List Nat := [53, 62]
theorem fr_X8_feed {W : Nat → Bool} (hL : ∀ c ∈ L_X8_feed, W c = true) (a1 : Int32) (h : Hp) (out : (Int32 × Hp)) (H : f_X8_feed a1 h = some out) : FW W h out.2 := by
  unfold f_X8_feed at H
  have F := FW.refl W h
  obtain ⟨r1, hr1, H⟩ := bind_some H
  rcases ite_e H with ⟨-, H⟩ | ⟨-, H⟩
  · obtain rfl := Option.some.inj H
    exact F
  · rcases ite_e H with ⟨-, H⟩ | ⟨-, H⟩
    · obtain rfl := Option.some.inj H
      exact F
    · obtain ⟨h4, eh4, H⟩ := lt_e H
      have F := F.st (fun q9 => (hL 53 (by decide))) eh4
      obtain ⟨h5, eh5, H⟩ := bind_some H
      have F := F.wri (fun q9 => (hL 62 (by decide))) eh5
      obtain rfl := Option.some.inj H
      exact F
def L_X8_is : List Nat := [53]
theorem fr_X8_is {W : Nat → Bool} (hL : ∀ c ∈ L_X8_is, W c = true) (a1 : Int32) (h : Hp) (out : (Int32 × Hp)) (H : f_X8_is a1 h = some out) : FW W h out.2 := by
  unfold f_X8_is at H
  have F := FW.refl W h
  obtain ⟨r1, hr1, H⟩ := bind_some H
  rcases ite_e H with ⟨-, H⟩ | ⟨-, H⟩
  · obtain ⟨h3, eh3, H⟩ := lt_e H
    have F := F.st (fun q9 => (hL 53 (by decide))) eh3
    obtain rfl := Option.some.inj H
    exact F
  · obtain rfl := Option.some.inj H
    exact F
def L_X8_worked : List Nat := [71]
theorem fj_X8_worked_33 {W : Nat → Bool} (hL : ∀ c ∈ L_X8_worked, W c = true) (a2 : Int32) (c3 : Int32) (c4 : Int32) (a5 : Int32) (h : Hp) (out : (Int32 × Int32 × Hp) ⊕ (Int32 × Int32 × Hp)) (H : j_X8_worked_33 a2 c3 c4 a5 h = some out) : FW W h (Sum.elim (fun s : (Int32 × Int32 × Hp) => s.2.2) (fun s : (Int32 × Int32 × Hp) => s.2.2) out) := by
  unfold j_X8_worked_33 at H
  have F := FW.refl W h
  rcases ite_e H with ⟨-, H⟩ | ⟨-, H⟩
  · obtain ⟨v5, -, H⟩ := bind_some H
    obtain ⟨h6, eh6, H⟩ := bind_some H
    have F := F.wri (fun q9 => (hL 71 (by decide))) eh6
    obtain rfl := Option.some.inj H
    exact F
  · obtain ⟨h7, eh7, H⟩ := bind_some H
    have F := F.wri (fun q9 => (hL 71 (by decide))) eh7
    obtain rfl := Option.some.inj H
    exact F
theorem fj_X8_worked_81 {W : Nat → Bool} (hL : ∀ c ∈ L_X8_worked, W c = true) (a2 : Int32) (c3 : Int32) (c4 : Int32) (a5 : Int32) (h : Hp) (out : (Int32 × Int32 × Hp) ⊕ (Int32 × Int32 × Hp)) (H : j_X8_worked_81 a2 c3 c4 a5 h = some out) : FW W h (Sum.elim (fun s : (Int32 × Int32 × Hp) => s.2.2) (fun s : (Int32 × Int32 × Hp) => s.2.2) out) := by
  unfold j_X8_worked_81 at H
  have F := FW.refl W h
  rcases ite_e H with ⟨-, H⟩ | ⟨-, H⟩
  · obtain ⟨v15, -, H⟩ := bind_some H
    obtain ⟨h16, eh16, H⟩ := bind_some H
    have F := F.wri (fun q9 => (hL 71 (by decide))) eh16
    obtain rfl := Option.some.inj H
    exact F
  · obtain ⟨v11, -, H⟩ := bind_some H
    rcases ite_e H with ⟨-, H⟩ | ⟨-, H⟩
    · obtain ⟨h14, eh14, H⟩ := bind_some H
      have F := F.wri (fun q9 => (hL 71 (by decide))) eh14
      obtain rfl := Option.some.inj H
      exact F
    · obtain ⟨h13, eh13, H⟩ := bind_some H
      have F := F.wri (fun q9 => (hL 71 (by decide))) eh13
      obtain rfl := Option.some.inj H
      exact F
theorem fb_X8_worked_5 {W : Nat → Bool} (hL : ∀ c ∈ L_X8_worked, W c = true) (a2 : Int32) (s : (Int32 × Int32 × Hp)) (out : (Int32 × Int32 × Hp) ⊕ (Int32 × Int32 × Hp)) (H : b_X8_worked_5 a2 s = some out) : FW W ((fun s : (Int32 × Int32 × Hp) => s.2.2) s) (Sum.elim (fun s : (Int32 × Int32 × Hp) => s.2.2) (fun s : (Int32 × Int32 × Hp) => s.2.2) out) := by
  unfold b_X8_worked_5 at H
  have F := FW.refl W s.2.2
  rcases ite_e H with ⟨-, H⟩ | ⟨-, H⟩
  · obtain rfl := Option.some.inj H
    exact F
  · obtain ⟨v2, -, H⟩ := bind_some H
    rcases ite_e H with ⟨-, H⟩ | ⟨-, H⟩
    · exact F.trans (fj_X8_worked_33 hL a2 s.1 s.2.1 v2 s.2.2 _ H)
    · rcases ite_e H with ⟨-, H⟩ | ⟨-, H⟩
      · rcases ite_e H with ⟨-, H⟩ | ⟨-, H⟩
        · exact F.trans (fj_X8_worked_81 hL a2 s.1 s.2.1 v2 s.2.2 _ H)
        · rcases ite_e H with ⟨-, H⟩ | ⟨-, H⟩
          · exact F.trans (fj_X8_worked_81 hL a2 s.1 s.2.1 v2 s.2.2 _ H)
          · obtain ⟨v18, -, H⟩ := bind_some H
            obtain ⟨v19, -, H⟩ := bind_some H
            obtain ⟨r20, hr20, H⟩ := bind_some H
            obtain ⟨h21, eh21, H⟩ := bind_some H
            have F := F.wri (fun q9 => (hL 71 (by decide))) eh21
            obtain rfl := Option.some.inj H
            exact F
      · exact F.trans (fj_X8_worked_33 hL a2 s.1 s.2.1 v2 s.2.2 _ H)
theorem fr_X8_worked {W : Nat → Bool} (hL : ∀ c ∈ L_X8_worked, W c = true) (a1 : Int32) (a2 : Int32) (h : Hp) (out : (Int32 × Hp)) (H : f_X8_worked a1 a2 h = some out) : FW W h out.2 := by
  unfold f_X8_worked at H
  have F := FW.refl W h
  obtain ⟨a22, ha22, H⟩ := bind_some H
  have F := F.trans (iter_F (hs := (fun s : (Int32 × Int32 × Hp) => s.2.2)) (ha := (fun s : (Int32 × Int32 × Hp) => s.2.2)) (fun s9 o9 ho9 => fb_X8_worked_5 hL a2 s9 o9 ho9) _ (0, a1, h) _ ha22)
  obtain ⟨v23, -, H⟩ := bind_some H
  obtain rfl := Option.some.inj H
  exact F
def L_X8_days : List Nat := [53, 73]
theorem fr_X8_days {W : Nat → Bool} (hL : ∀ c ∈ L_X8_days, W c = true) (a1 : Int32) (h : Hp) (out : (Int32 × Hp)) (H : f_X8_days a1 h = some out) : FW W h out.2 := by
  unfold f_X8_days at H
  have F := FW.refl W h
  obtain ⟨r1, hr1, H⟩ := bind_some H
  rcases ite_e H with ⟨-, H⟩ | ⟨-, H⟩
  · obtain rfl := Option.some.inj H
    exact F
  · obtain ⟨h3, eh3, H⟩ := lt_e H
    have F := F.st (fun q9 => (hL 53 (by decide))) eh3
    obtain ⟨v4, -, H⟩ := bind_some H
    obtain ⟨h5, eh5, H⟩ := bind_some H
    have F := F.wri (fun q9 => (hL 73 (by decide))) eh5
    obtain rfl := Option.some.inj H
    exact F
def L_X8_image : List Nat := [53, 74, 75]
theorem fb_X8_image_23 {W : Nat → Bool} (hL : ∀ c ∈ L_X8_image, W c = true) (s : (Int32 × Hp)) (out : (Int32 × Hp) ⊕ (Int32 × Hp)) (H : b_X8_image_23 s = some out) : FW W ((fun s : (Int32 × Hp) => s.2) s) (Sum.elim (fun s : (Int32 × Hp) => s.2) (fun s : (Int32 × Hp) => s.2) out) := by
  unfold b_X8_image_23 at H
  have F := FW.refl W s.2
  rcases ite_e H with ⟨-, H⟩ | ⟨-, H⟩
  · obtain rfl := Option.some.inj H
    exact F
  · obtain ⟨v5, -, H⟩ := bind_some H
    obtain ⟨h6, eh6, H⟩ := bind_some H
    have F := F.wri (fun q9 => (hL 75 (by decide))) eh6
    obtain rfl := Option.some.inj H
    exact F
theorem fr_X8_image {W : Nat → Bool} (hL : ∀ c ∈ L_X8_image, W c = true) (h : Hp) (out : (Int32 × Hp)) (H : f_X8_image h = some out) : FW W h out.2 := by
  unfold f_X8_image at H
  have F := FW.refl W h
  obtain ⟨h1, eh1, H⟩ := lt_e H
  have F := F.st (fun q9 => (hL 53 (by decide))) eh1
  obtain ⟨h2, eh2, H⟩ := lt_e H
  have F := F.st (fun q9 => (hL 53 (by decide))) eh2
  obtain ⟨r3, hr3, H⟩ := bind_some H
  have F := F.trans (fr_X8_keeps (sub_L hL (by decide)) 74 h2 (hL 74 (by decide)) _ hr3)
  obtain ⟨a7, ha7, H⟩ := bind_some H
  have F := F.trans (iter_F (hs := (fun s : (Int32 × Hp) => s.2)) (ha := (fun s : (Int32 × Hp) => s.2)) (fun s9 o9 ho9 => fb_X8_image_23 hL s9 o9 ho9) _ (0, r3) _ ha7)
  obtain ⟨v8, -, H⟩ := bind_some H
  obtain rfl := Option.some.inj H
  exact F
def L_X8_body : List Nat := [53, 77]
theorem fr_X8_body {W : Nat → Bool} (hL : ∀ c ∈ L_X8_body, W c = true) (a1 : Int32) (h : Hp) (out : (Int32 × Hp)) (H : f_X8_body a1 h = some out) : FW W h out.2 := by
  unfold f_X8_body at H
  have F := FW.refl W h
  obtain ⟨r1, hr1, H⟩ := bind_some H
  rcases ite_e H with ⟨-, H⟩ | ⟨-, H⟩
  · obtain rfl := Option.some.inj H
    exact F
  · rcases ite_e H with ⟨-, H⟩ | ⟨-, H⟩
    · obtain rfl := Option.some.inj H
      exact F
    · obtain ⟨h4, eh4, H⟩ := bind_some H
      have F := F.wri (fun q9 => (hL 77 (by decide))) eh4
      obtain ⟨h5, eh5, H⟩ := lt_e H
      have F := F.st (fun q9 => (hL 53 (by decide))) eh5
      obtain rfl := Option.some.inj H
      exact F
def L_X7_wrong : List Nat := [1, 4, 5, 6, 15]
theorem fr_X7_wrong {W : Nat → Bool} (hL : ∀ c ∈ L_X7_wrong, W c = true) (a1 : Int32) (a2 : Int32) (h : Hp) (out : (Int32 × Hp)) (H : f_X7_wrong a1 a2 h = some out) : FW W h out.2 := by
  unfold f_X7_wrong at H
  have F := FW.refl W h
  rcases ite_e H with ⟨-, H⟩ | ⟨-, H⟩
  · obtain rfl := Option.some.inj H
    exact F
  · obtain ⟨r2, hr2, H⟩ := bind_some H
    rcases ite_e H with ⟨-, H⟩ | ⟨-, H⟩
    · obtain rfl := Option.some.inj H
      exact F
    · rcases ite_e H with ⟨-, H⟩ | ⟨-, H⟩
      · obtain rfl := Option.some.inj H
        exact F
      · obtain ⟨r5, hr5, H⟩ := bind_some H
        have F := F.trans (fr_X7_addWrong (sub_L hL (by decide)) (a1 / 10) (a1 % 10) a2 h _ hr5)
        obtain rfl := Option.some.inj H
        exact F
def L_X7_wrongs : List Nat := [1, 4, 5, 6, 15]
theorem fb_X7_wrongs_61 {W : Nat → Bool} (hL : ∀ c ∈ L_X7_wrongs, W c = true) (a1 : Int32) (a3 : Int32) (s : (Int32 × Int32 × Int32 × Hp)) (out : (Int32 × Int32 × Int32 × Hp) ⊕ ((Int32 × Int32 × Int32 × Hp) ⊕ (Int32 × Hp))) (H : b_X7_wrongs_61 a1 a3 s = some out) : FW W ((fun s : (Int32 × Int32 × Int32 × Hp) => s.2.2.2) s) (Sum.elim (fun s : (Int32 × Int32 × Int32 × Hp) => s.2.2.2) (Sum.elim (fun s : (Int32 × Int32 × Int32 × Hp) => s.2.2.2) (fun r : (Int32 × Hp) => r.2)) out) := by
  unfold b_X7_wrongs_61 at H
  have F := FW.refl W s.2.2.2
  rcases ite_e H with ⟨-, H⟩ | ⟨-, H⟩
  · obtain rfl := Option.some.inj H
    exact F
  · obtain ⟨r10, hr10, H⟩ := bind_some H
    rcases ite_e H with ⟨-, H⟩ | ⟨-, H⟩
    · obtain rfl := Option.some.inj H
      exact F
    · rcases ite_e H with ⟨-, H⟩ | ⟨-, H⟩
      · obtain rfl := Option.some.inj H
        exact F
      · obtain ⟨r13, hr13, H⟩ := bind_some H
        obtain ⟨r14, hr14, H⟩ := bind_some H
        obtain ⟨r15, hr15, H⟩ := bind_some H
        obtain ⟨r16, hr16, H⟩ := bind_some H
        rcases ite_e H with ⟨-, H⟩ | ⟨-, H⟩
        · obtain rfl := Option.some.inj H
          exact F
        · obtain ⟨r18, hr18, H⟩ := bind_some H
          have F := F.trans (fr_X7_addWrong (sub_L hL (by decide)) r13.toInt32 r14.toInt32 r15.toInt32 s.2.2.2 _ hr18)
          obtain rfl := Option.some.inj H
          exact F
theorem fr_X7_wrongs {W : Nat → Bool} (hL : ∀ c ∈ L_X7_wrongs, W c = true) (a1 : Int32) (a2 : Int32) (a3 : Int32) (h : Hp) (out : (Int32 × Hp)) (H : f_X7_wrongs a1 a2 a3 h = some out) : FW W h out.2 := by
  unfold f_X7_wrongs at H
  have F := FW.refl W h
  obtain ⟨r1, hr1, H⟩ := bind_some H
  rcases ite_e H with ⟨-, H⟩ | ⟨-, H⟩
  · obtain rfl := Option.some.inj H
    exact F
  · rcases ite_e H with ⟨-, H⟩ | ⟨-, H⟩
    · obtain rfl := Option.some.inj H
      exact F
    · rcases ite_e H with ⟨-, H⟩ | ⟨-, H⟩
      · obtain ⟨r5, hr5, H⟩ := bind_some H
        rcases ite_e H with ⟨-, H⟩ | ⟨-, H⟩
        · obtain ⟨r7, hr7, H⟩ := bind_some H
          rcases ite_e H with ⟨-, H⟩ | ⟨-, H⟩
          · obtain rfl := Option.some.inj H
            exact F
          · obtain ⟨a19o, ha19, hca19⟩ := it_R H
            have F := F.trans (iter_F (hs := (fun s : (Int32 × Int32 × Int32 × Hp) => s.2.2.2)) (ha := (Sum.elim (fun s : (Int32 × Int32 × Int32 × Hp) => s.2.2.2) (fun r : (Int32 × Hp) => r.2))) (fun s9 o9 ho9 => fb_X7_wrongs_61 hL a1 a3 s9 o9 ho9) _ (0, a2, 0, h) _ ha19)
            rcases hca19 with ⟨a19, rfl, H⟩ | ⟨r, rfl, H⟩
            · obtain rfl := Option.some.inj H
              exact F
            · obtain rfl := Option.some.inj H
              exact F
        · obtain rfl := Option.some.inj H
          exact F
      · obtain rfl := Option.some.inj H
        exact F
def L_X0_note : List Nat := [25, 26, 27, 28, 29]
theorem fj_X0_note_13 {W : Nat → Bool} (hL : ∀ c ∈ L_X0_note, W c = true) (a1 : Int32) (a2 : Int32) (a3 : Int32) (a4 : Int32) (h : Hp) (out : Hp) (H : j_X0_note_13 a1 a2 a3 a4 h = some out) : FW W h out := by
  unfold j_X0_note_13 at H
  have F := FW.refl W h
  obtain ⟨h2, eh2, H⟩ := bind_some H
  have F := F.wri (fun q9 => (hL 26 (by decide))) eh2
  obtain ⟨h3, eh3, H⟩ := bind_some H
  have F := F.wri (fun q9 => (hL 27 (by decide))) eh3
  obtain ⟨h4, eh4, H⟩ := bind_some H
  have F := F.wri (fun q9 => (hL 28 (by decide))) eh4
  obtain ⟨h5, eh5, H⟩ := bind_some H
  have F := F.wri (fun q9 => (hL 29 (by decide))) eh5
  obtain ⟨h6, eh6, H⟩ := lt_e H
  have F := F.st (fun q9 => (hL 25 (by decide))) eh6
  obtain ⟨h7, eh7, H⟩ := lt_e H
  have F := F.st (fun q9 => (hL 25 (by decide))) eh7
  obtain rfl := Option.some.inj H
  exact F
theorem fr_X0_note {W : Nat → Bool} (hL : ∀ c ∈ L_X0_note, W c = true) (a1 : Int32) (a2 : Int32) (a3 : Int32) (a4 : Int32) (h : Hp) (out : Hp) (H : f_X0_note a1 a2 a3 a4 h = some out) : FW W h out := by
  unfold f_X0_note at H
  have F := FW.refl W h
  rcases ite_e H with ⟨-, H⟩ | ⟨-, H⟩
  · obtain ⟨r8, hr8, H⟩ := bind_some H
    have F := F.trans (fr_X0_dropOldest (sub_L hL (by decide)) h _ hr8)
    exact F.trans (fj_X0_note_13 hL a1 a2 a3 a4 r8 _ H)
  · exact F.trans (fj_X0_note_13 hL a1 a2 a3 a4 h _ H)
def L_X7_worth : List Nat := [11, 12]
theorem fj_X7_worth_47 {W : Nat → Bool} (hL : ∀ c ∈ L_X7_worth, W c = true) (a1 : Nat) (a2 : Int32) (a3 : Int32) (a4 : Int32) (a5 : Int32) (t0 : Int32) (h : Hp) (out : (Int32 × Hp)) (H : j_X7_worth_47 a1 a2 a3 a4 a5 t0 h = some out) : FW W h out.2 := by
  unfold j_X7_worth_47 at H
  have F := FW.refl W h
  obtain ⟨v5, -, H⟩ := bind_some H
  obtain ⟨v6, -, H⟩ := bind_some H
  obtain ⟨r7, hr7, H⟩ := bind_some H
  obtain ⟨v8, -, H⟩ := bind_some H
  obtain ⟨r9, hr9, H⟩ := bind_some H
  have F := F.trans (fr_X4_tell (sub_L hL (by decide)) v5 a5 v6 r7 v8 t0 h _ hr9)
  obtain ⟨r10, hr10, H⟩ := bind_some H
  have F := F.trans (fr_X4_worth (sub_L hL (by decide)) r9 _ hr10)
  obtain rfl := Option.some.inj H
  exact F
theorem fr_X7_worth {W : Nat → Bool} (hL : ∀ c ∈ L_X7_worth, W c = true) (a1 : Nat) (a2 : Int32) (a3 : Int32) (h : Hp) (out : (Int32 × Hp)) (H : f_X7_worth a1 a2 a3 h = some out) : FW W h out.2 := by
  unfold f_X7_worth at H
  have F := FW.refl W h
  obtain ⟨hga1, H⟩ := gd_some H
  obtain ⟨v1, -, H⟩ := bind_some H
  obtain ⟨v2, -, H⟩ := bind_some H
  obtain ⟨v3, -, H⟩ := bind_some H
  rcases ite_e H with ⟨-, H⟩ | ⟨-, H⟩
  · exact F.trans (fj_X7_worth_47 hL a1 a2 a3 v1 (mxI 0 ((h.1 a1 4) - v2)) 1 h _ H)
  · exact F.trans (fj_X7_worth_47 hL a1 a2 a3 v1 (mxI 0 ((h.1 a1 4) - v2)) 0 h _ H)
def L_X5_become : List Nat := []
theorem fr_X5_become {W : Nat → Bool} (hL : ∀ c ∈ L_X5_become, W c = true) (o : Nat) (a1 : Nat) (h : Hp) (hw_o_0 : W (pf o 0) = true) (hw_o_1 : W (pf o 1) = true) (hw_o_2 : W (pf o 2) = true) (hw_o : W o = true) (out : Hp) (H : f_X5_become o a1 h = some out) : FW W h out := by
  unfold f_X5_become at H
  have F := FW.refl W h
  obtain ⟨hgo, H⟩ := gd_some H
  obtain ⟨hga1, H⟩ := gd_some H
  obtain ⟨r1, hr1, H⟩ := bind_some H
  have F := F.trans (fr_X5_becomeUpTo (sub_L hL (by decide)) o a1 12 h hw_o_0 hw_o_1 hw_o_2 hw_o _ hr1)
  obtain rfl := Option.some.inj H
  exact F
def L_X7_again : List Nat := [13, 15, 16]
theorem fr_X7_again {W : Nat → Bool} (hL : ∀ c ∈ L_X7_again, W c = true) (a1 : Int32) (h : Hp) (out : (Int32 × Hp)) (H : f_X7_again a1 h = some out) : FW W h out.2 := by
  unfold f_X7_again at H
  have F := FW.refl W h
  obtain ⟨r1, hr1, H⟩ := bind_some H
  rcases ite_e H with ⟨-, H⟩ | ⟨-, H⟩
  · obtain rfl := Option.some.inj H
    exact F
  · obtain ⟨r3, hr3, H⟩ := bind_some H
    rcases ite_e H with ⟨-, H⟩ | ⟨-, H⟩
    · obtain rfl := Option.some.inj H
      exact F
    · obtain ⟨v5, -, H⟩ := bind_some H
      obtain ⟨r6, hr6, H⟩ := bind_some H
      have F := F.trans (fr_X5_doAgain (sub_L hL (by decide)) 13 a1 h (hL 13 (by decide)) (hL 15 (by decide)) _ hr6)
      obtain ⟨v7, -, H⟩ := bind_some H
      obtain ⟨h8, eh8, H⟩ := bind_some H
      have F := F.wri (fun q9 => (hL 16 (by decide))) eh8
      obtain rfl := Option.some.inj H
      exact F
def L_X7_days : List Nat := [13, 16]
theorem fr_X7_days {W : Nat → Bool} (hL : ∀ c ∈ L_X7_days, W c = true) (a1 : Int32) (h : Hp) (out : (Int32 × Hp)) (H : f_X7_days a1 h = some out) : FW W h out.2 := by
  unfold f_X7_days at H
  have F := FW.refl W h
  rcases ite_e H with ⟨-, H⟩ | ⟨-, H⟩
  · obtain rfl := Option.some.inj H
    exact F
  · rcases ite_e H with ⟨-, H⟩ | ⟨-, H⟩
    · obtain ⟨r3, hr3, H⟩ := bind_some H
      have F := F.trans (fr_X5_pass (sub_L hL (by decide)) 13 a1 h (hL 13 (by decide)) _ hr3)
      obtain ⟨v4, -, H⟩ := bind_some H
      obtain ⟨h5, eh5, H⟩ := bind_some H
      have F := F.wri (fun q9 => (hL 16 (by decide))) eh5
      obtain rfl := Option.some.inj H
      exact F
    · obtain rfl := Option.some.inj H
      exact F
def L_X7_back : List Nat := [13, 14, 15, 16]
theorem fr_X7_back {W : Nat → Bool} (hL : ∀ c ∈ L_X7_back, W c = true) (h : Hp) (out : (Int32 × Hp)) (H : f_X7_back h = some out) : FW W h out.2 := by
  unfold f_X7_back at H
  have F := FW.refl W h
  rcases ite_e H with ⟨-, H⟩ | ⟨-, H⟩
  · obtain rfl := Option.some.inj H
    exact F
  · obtain ⟨r2, hr2, H⟩ := bind_some H
    have F := F.trans (fr_X5_becomeUpTo (sub_L hL (by decide)) 13 21 (h.1 0 6) h (hL 14 (by decide)) (hL 15 (by decide)) (hL 16 (by decide)) (hL 13 (by decide)) _ hr2)
    obtain ⟨v3, -, H⟩ := bind_some H
    obtain rfl := Option.some.inj H
    exact F
def L_X7_undo : List Nat := [2, 3, 6, 13, 14, 15, 25]
theorem fr_X7_undo {W : Nat → Bool} (hL : ∀ c ∈ L_X7_undo, W c = true) (h : Hp) (out : (Int32 × Hp)) (H : f_X7_undo h = some out) : FW W h out.2 := by
  unfold f_X7_undo at H
  have F := FW.refl W h
  obtain ⟨r1, hr1, H⟩ := bind_some H
  rcases ite_e H with ⟨-, H⟩ | ⟨-, H⟩
  · obtain rfl := Option.some.inj H
    exact F
  · obtain ⟨r3, hr3, H⟩ := bind_some H
    have F := F.trans (fr_X0_stepBack (sub_L hL (by decide)) h _ hr3)
    obtain ⟨v4, -, H⟩ := bind_some H
    obtain ⟨v5, -, H⟩ := bind_some H
    obtain ⟨v6, -, H⟩ := bind_some H
    obtain ⟨r7, hr7, H⟩ := bind_some H
    have F := F.trans (fr_X7_setValue (sub_L hL (by decide)) v4 v5 v6 r3.2 _ hr7)
    obtain rfl := Option.some.inj H
    exact F
def L_X7_redo : List Nat := [2, 3, 6, 13, 14, 15, 25]
theorem fr_X7_redo {W : Nat → Bool} (hL : ∀ c ∈ L_X7_redo, W c = true) (h : Hp) (out : (Int32 × Hp)) (H : f_X7_redo h = some out) : FW W h out.2 := by
  unfold f_X7_redo at H
  have F := FW.refl W h
  obtain ⟨r1, hr1, H⟩ := bind_some H
  rcases ite_e H with ⟨-, H⟩ | ⟨-, H⟩
  · obtain rfl := Option.some.inj H
    exact F
  · obtain ⟨r3, hr3, H⟩ := bind_some H
    have F := F.trans (fr_X0_stepOn (sub_L hL (by decide)) h _ hr3)
    obtain ⟨v4, -, H⟩ := bind_some H
    obtain ⟨v5, -, H⟩ := bind_some H
    obtain ⟨v6, -, H⟩ := bind_some H
    obtain ⟨r7, hr7, H⟩ := bind_some H
    have F := F.trans (fr_X7_setValue (sub_L hL (by decide)) v4 v5 v6 r3.2 _ hr7)
    obtain rfl := Option.some.inj H
    exact F
def L_X7_row : List Nat := [32, 33, 34, 35, 36, 37, 38, 39]
theorem fr_X7_row {W : Nat → Bool} (hL : ∀ c ∈ L_X7_row, W c = true) (a1 : Int32) (a2 : Int32) (a3 : Int32) (h : Hp) (out : (Int32 × Hp)) (H : f_X7_row a1 a2 a3 h = some out) : FW W h out.2 := by
  unfold f_X7_row at H
  have F := FW.refl W h
  obtain ⟨r1, hr1, H⟩ := bind_some H
  rcases ite_e H with ⟨-, H⟩ | ⟨-, H⟩
  · obtain rfl := Option.some.inj H
    exact F
  · obtain ⟨r3, hr3, H⟩ := bind_some H
    rcases ite_e H with ⟨-, H⟩ | ⟨-, H⟩
    · obtain rfl := Option.some.inj H
      exact F
    · rcases ite_e H with ⟨-, H⟩ | ⟨-, H⟩
      · rcases ite_e H with ⟨-, H⟩ | ⟨-, H⟩
        · obtain ⟨r7, hr7, H⟩ := bind_some H
          have F := F.trans (fr_X6_setRow (sub_L hL (by decide)) a1 a2 a3 h _ hr7)
          obtain rfl := Option.some.inj H
          exact F
        · obtain rfl := Option.some.inj H
          exact F
      · obtain rfl := Option.some.inj H
        exact F
def L_X7_put : List Nat := [32, 33, 34, 35, 36, 37]
theorem fr_X7_put {W : Nat → Bool} (hL : ∀ c ∈ L_X7_put, W c = true) (a1 : Int32) (a2 : Int32) (a3 : Int64) (h : Hp) (out : (Int32 × Hp)) (H : f_X7_put a1 a2 a3 h = some out) : FW W h out.2 := by
  unfold f_X7_put at H
  have F := FW.refl W h
  obtain ⟨r1, hr1, H⟩ := bind_some H
  rcases ite_e H with ⟨-, H⟩ | ⟨-, H⟩
  · obtain ⟨r3, hr3, H⟩ := bind_some H
    have F := F.trans (fr_X6_store (sub_L hL (by decide)) a1 a2 a3 h _ hr3)
    obtain rfl := Option.some.inj H
    exact F
  · obtain rfl := Option.some.inj H
    exact F
def L_X7_shift : List Nat := [32, 33, 34, 35, 36, 37]
theorem fr_X7_shift {W : Nat → Bool} (hL : ∀ c ∈ L_X7_shift, W c = true) (a1 : Int32) (a2 : Int32) (a3 : Int32) (a4 : Int32) (a5 : Int32) (h : Hp) (out : (Int32 × Hp)) (H : f_X7_shift a1 a2 a3 a4 a5 h = some out) : FW W h out.2 := by
  unfold f_X7_shift at H
  have F := FW.refl W h
  obtain ⟨r1, hr1, H⟩ := bind_some H
  rcases ite_e H with ⟨-, H⟩ | ⟨-, H⟩
  · obtain rfl := Option.some.inj H
    exact F
  · obtain ⟨r3, hr3, H⟩ := bind_some H
    rcases ite_e H with ⟨-, H⟩ | ⟨-, H⟩
    · obtain rfl := Option.some.inj H
      exact F
    · obtain ⟨r5, hr5, H⟩ := bind_some H
      rcases ite_e H with ⟨-, H⟩ | ⟨-, H⟩
      · obtain ⟨r7, hr7, H⟩ := bind_some H
        rcases ite_e H with ⟨-, H⟩ | ⟨-, H⟩
        · obtain ⟨r9, hr9, H⟩ := bind_some H
          rcases ite_e H with ⟨-, H⟩ | ⟨-, H⟩
          · obtain rfl := Option.some.inj H
            exact F
          · obtain ⟨r11, hr11, H⟩ := bind_some H
            rcases ite_e H with ⟨-, H⟩ | ⟨-, H⟩
            · obtain rfl := Option.some.inj H
              exact F
            · obtain ⟨r13, hr13, H⟩ := bind_some H
              rcases ite_e H with ⟨-, H⟩ | ⟨-, H⟩
              · obtain rfl := Option.some.inj H
                exact F
              · obtain ⟨r15, hr15, H⟩ := bind_some H
                have F := F.trans (fr_X6_copyPart (sub_L hL (by decide)) a1 a2 a3 a4 a5 h _ hr15)
                obtain rfl := Option.some.inj H
                exact F
        · obtain rfl := Option.some.inj H
          exact F
      · obtain rfl := Option.some.inj H
        exact F
def L_X8_person : List Nat := [53, 55, 56]
theorem fr_X8_person {W : Nat → Bool} (hL : ∀ c ∈ L_X8_person, W c = true) (a1 : Int32) (h : Hp) (out : (Int32 × Hp)) (H : f_X8_person a1 h = some out) : FW W h out.2 := by
  unfold f_X8_person at H
  have F := FW.refl W h
  obtain ⟨r1, hr1, H⟩ := bind_some H
  rcases ite_e H with ⟨-, H⟩ | ⟨-, H⟩
  · obtain rfl := Option.some.inj H
    exact F
  · rcases ite_e H with ⟨-, H⟩ | ⟨-, H⟩
    · obtain rfl := Option.some.inj H
      exact F
    · obtain ⟨h4, eh4, H⟩ := bind_some H
      have F := F.wri (fun q9 => (hL 55 (by decide))) eh4
      obtain ⟨h5, eh5, H⟩ := bind_some H
      have F := F.wri (fun q9 => (hL 56 (by decide))) eh5
      obtain ⟨h6, eh6, H⟩ := lt_e H
      have F := F.st (fun q9 => (hL 53 (by decide))) eh6
      obtain rfl := Option.some.inj H
      exact F
def L_X8_byLaw : List Nat := [71, 72]
theorem fj_X8_byLaw_137 {W : Nat → Bool} (hL : ∀ c ∈ L_X8_byLaw, W c = true) (c3 : Int32) (h : Hp) (out : (Int32 × Hp) ⊕ ((Int32 × Hp) ⊕ (Int32 × Hp))) (H : j_X8_byLaw_137 c3 h = some out) : FW W h (Sum.elim (fun s : (Int32 × Hp) => s.2) (Sum.elim (fun s : (Int32 × Hp) => s.2) (fun r : (Int32 × Hp) => r.2)) out) := by
  unfold j_X8_byLaw_137 at H
  have F := FW.refl W h
  obtain ⟨v20, -, H⟩ := bind_some H
  obtain ⟨v21, -, H⟩ := bind_some H
  obtain ⟨r22, hr22, H⟩ := bind_some H
  have F := F.trans (fr_X8_worked (sub_L hL (by decide)) v20 v21 h _ hr22)
  obtain rfl := Option.some.inj H
  exact F
theorem fb_X8_byLaw_92 {W : Nat → Bool} (hL : ∀ c ∈ L_X8_byLaw, W c = true) (s : (Int32 × Hp)) (out : (Int32 × Hp) ⊕ ((Int32 × Hp) ⊕ (Int32 × Hp))) (H : b_X8_byLaw_92 s = some out) : FW W ((fun s : (Int32 × Hp) => s.2) s) (Sum.elim (fun s : (Int32 × Hp) => s.2) (Sum.elim (fun s : (Int32 × Hp) => s.2) (fun r : (Int32 × Hp) => r.2)) out) := by
  unfold b_X8_byLaw_92 at H
  have F := FW.refl W s.2
  rcases ite_e H with ⟨-, H⟩ | ⟨-, H⟩
  · obtain rfl := Option.some.inj H
    exact F
  · obtain ⟨v17, -, H⟩ := bind_some H
    obtain ⟨v18, -, H⟩ := bind_some H
    rcases ite_e H with ⟨-, H⟩ | ⟨-, H⟩
    · exact F.trans (fj_X8_byLaw_137 hL s.1 s.2 _ H)
    · obtain ⟨v23, -, H⟩ := bind_some H
      obtain ⟨v24, -, H⟩ := bind_some H
      obtain ⟨r25, hr25, H⟩ := bind_some H
      have F := F.trans (fr_X8_worked (sub_L hL (by decide)) v23 v24 s.2 _ hr25)
      rcases ite_e H with ⟨-, H⟩ | ⟨-, H⟩
      · obtain rfl := Option.some.inj H
        exact F
      · exact F.trans (fj_X8_byLaw_137 hL s.1 r25.2 _ H)
theorem fj_X8_byLaw_89 {W : Nat → Bool} (hL : ∀ c ∈ L_X8_byLaw, W c = true) (t0 : Int32) (t1 : Int32) (h : Hp) (out : (Int32 × Hp)) (H : j_X8_byLaw_89 t0 t1 h = some out) : FW W h out.2 := by
  unfold j_X8_byLaw_89 at H
  have F := FW.refl W h
  obtain ⟨h15, eh15, H⟩ := bind_some H
  have F := F.wri (fun q9 => (hL 72 (by decide))) eh15
  obtain ⟨a27o, ha27, hca27⟩ := it_R H
  have F := F.trans (iter_F (hs := (fun s : (Int32 × Hp) => s.2)) (ha := (Sum.elim (fun s : (Int32 × Hp) => s.2) (fun r : (Int32 × Hp) => r.2))) (fun s9 o9 ho9 => fb_X8_byLaw_92 hL s9 o9 ho9) _ (0, h15) _ ha27)
  rcases hca27 with ⟨a27, rfl, H⟩ | ⟨r, rfl, H⟩
  · obtain rfl := Option.some.inj H
    exact F
  · obtain rfl := Option.some.inj H
    exact F
theorem fr_X8_byLaw {W : Nat → Bool} (hL : ∀ c ∈ L_X8_byLaw, W c = true) (a1 : Int32) (a2 : Int32) (h : Hp) (out : (Int32 × Hp)) (H : f_X8_byLaw a1 a2 h = some out) : FW W h out.2 := by
  unfold f_X8_byLaw at H
  have F := FW.refl W h
  obtain ⟨v1, -, H⟩ := bind_some H
  obtain ⟨h2, eh2, H⟩ := bind_some H
  have F := F.wri (fun q9 => (hL 72 (by decide))) eh2
  obtain ⟨r3, hr3, H⟩ := bind_some H
  obtain ⟨h4, eh4, H⟩ := bind_some H
  have F := F.wri (fun q9 => (hL 72 (by decide))) eh4
  obtain ⟨v5, -, H⟩ := bind_some H
  obtain ⟨v6, -, H⟩ := bind_some H
  obtain ⟨h7, eh7, H⟩ := bind_some H
  have F := F.wri (fun q9 => (hL 72 (by decide))) eh7
  obtain ⟨r8, hr8, H⟩ := bind_some H
  obtain ⟨h9, eh9, H⟩ := bind_some H
  have F := F.wri (fun q9 => (hL 72 (by decide))) eh9
  obtain ⟨v10, -, H⟩ := bind_some H
  obtain ⟨h11, eh11, H⟩ := bind_some H
  have F := F.wri (fun q9 => (hL 72 (by decide))) eh11
  obtain ⟨v12, -, H⟩ := bind_some H
  obtain ⟨v13, -, H⟩ := bind_some H
  rcases ite_e H with ⟨-, H⟩ | ⟨-, H⟩
  · exact F.trans (fj_X8_byLaw_89 hL 1 5 h11 _ H)
  · exact F.trans (fj_X8_byLaw_89 hL 0 5 h11 _ H)
def L_X8_chosen : List Nat := [85]
theorem fb_X8_chosen_14 {W : Nat → Bool} (hL : ∀ c ∈ L_X8_chosen, W c = true) (a1 : Int32) (s : (Int32 × Int32 × Hp)) (out : (Int32 × Int32 × Hp) ⊕ (Int32 × Int32 × Hp)) (H : b_X8_chosen_14 a1 s = some out) : FW W ((fun s : (Int32 × Int32 × Hp) => s.2.2) s) (Sum.elim (fun s : (Int32 × Int32 × Hp) => s.2.2) (fun s : (Int32 × Int32 × Hp) => s.2.2) out) := by
  unfold b_X8_chosen_14 at H
  have F := FW.refl W s.2.2
  rcases ite_e H with ⟨-, H⟩ | ⟨-, H⟩
  · obtain rfl := Option.some.inj H
    exact F
  · obtain ⟨v4, -, H⟩ := bind_some H
    obtain ⟨r5, hr5, H⟩ := bind_some H
    obtain ⟨h6, eh6, H⟩ := bind_some H
    have F := F.wri (fun q9 => (hL 85 (by decide))) eh6
    obtain ⟨v7, -, H⟩ := bind_some H
    obtain rfl := Option.some.inj H
    exact F
theorem fr_X8_chosen {W : Nat → Bool} (hL : ∀ c ∈ L_X8_chosen, W c = true) (a1 : Int32) (h : Hp) (out : (Int32 × Hp)) (H : f_X8_chosen a1 h = some out) : FW W h out.2 := by
  unfold f_X8_chosen at H
  have F := FW.refl W h
  obtain ⟨r1, hr1, H⟩ := bind_some H
  rcases ite_e H with ⟨-, H⟩ | ⟨-, H⟩
  · obtain rfl := Option.some.inj H
    exact F
  · obtain ⟨a8, ha8, H⟩ := bind_some H
    have F := F.trans (iter_F (hs := (fun s : (Int32 × Int32 × Hp) => s.2.2)) (ha := (fun s : (Int32 × Int32 × Hp) => s.2.2)) (fun s9 o9 ho9 => fb_X8_chosen_14 hL a1 s9 o9 ho9) _ (0, 0, h) _ ha8)
    obtain ⟨v9, -, H⟩ := bind_some H
    obtain rfl := Option.some.inj H
    exact F
def L_X8_again : List Nat := [60, 61, 73]
theorem fr_X8_again {W : Nat → Bool} (hL : ∀ c ∈ L_X8_again, W c = true) (a1 : Int32) (h : Hp) (out : (Int32 × Hp)) (H : f_X8_again a1 h = some out) : FW W h out.2 := by
  unfold f_X8_again at H
  have F := FW.refl W h
  obtain ⟨r1, hr1, H⟩ := bind_some H
  rcases ite_e H with ⟨-, H⟩ | ⟨-, H⟩
  · obtain rfl := Option.some.inj H
    exact F
  · obtain ⟨v3, -, H⟩ := bind_some H
    rcases ite_e H with ⟨-, H⟩ | ⟨-, H⟩
    · obtain rfl := Option.some.inj H
      exact F
    · obtain ⟨v5, -, H⟩ := bind_some H
      obtain ⟨h6, eh6, H⟩ := bind_some H
      have F := F.wri (fun q9 => (hL 61 (by decide))) eh6
      obtain ⟨h7, eh7, H⟩ := bind_some H
      have F := F.wri (fun q9 => (hL 60 (by decide))) eh7
      obtain ⟨v8, -, H⟩ := bind_some H
      obtain ⟨h9, eh9, H⟩ := bind_some H
      have F := F.wri (fun q9 => (hL 73 (by decide))) eh9
      obtain rfl := Option.some.inj H
      exact F
def L_X8_slam : List Nat := [54, 73]
theorem fr_X8_slam {W : Nat → Bool} (hL : ∀ c ∈ L_X8_slam, W c = true) (a1 : Int32) (h : Hp) (out : (Int32 × Hp)) (H : f_X8_slam a1 h = some out) : FW W h out.2 := by
  unfold f_X8_slam at H
  have F := FW.refl W h
  obtain ⟨r1, hr1, H⟩ := bind_some H
  rcases ite_e H with ⟨-, H⟩ | ⟨-, H⟩
  · obtain rfl := Option.some.inj H
    exact F
  · obtain ⟨v3, -, H⟩ := bind_some H
    obtain ⟨h4, eh4, H⟩ := bind_some H
    have F := F.wri (fun q9 => (hL 54 (by decide))) eh4
    obtain ⟨v5, -, H⟩ := bind_some H
    obtain ⟨h6, eh6, H⟩ := bind_some H
    have F := F.wri (fun q9 => (hL 73 (by decide))) eh6
    obtain ⟨v7, -, H⟩ := bind_some H
    obtain rfl := Option.some.inj H
    exact F
def L_X8_keep : List Nat := [79, 80]
theorem fr_X8_keep {W : Nat → Bool} (hL : ∀ c ∈ L_X8_keep, W c = true) (a1 : Int32) (a2 : Int32) (h : Hp) (out : (Int32 × Hp)) (H : f_X8_keep a1 a2 h = some out) : FW W h out.2 := by
  unfold f_X8_keep at H
  have F := FW.refl W h
  obtain ⟨r1, hr1, H⟩ := bind_some H
  rcases ite_e H with ⟨-, H⟩ | ⟨-, H⟩
  · obtain rfl := Option.some.inj H
    exact F
  · obtain ⟨r3, hr3, H⟩ := bind_some H
    rcases ite_e H with ⟨-, H⟩ | ⟨-, H⟩
    · obtain rfl := Option.some.inj H
      exact F
    · rcases ite_e H with ⟨-, H⟩ | ⟨-, H⟩
      · obtain ⟨h6, eh6, H⟩ := bind_some H
        have F := F.wri (fun q9 => (hL 79 (by decide))) eh6
        obtain ⟨h7, eh7, H⟩ := bind_some H
        have F := F.wri (fun q9 => (hL 80 (by decide))) eh7
        obtain rfl := Option.some.inj H
        exact F
      · obtain ⟨h8, eh8, H⟩ := bind_some H
        have F := F.wri (fun q9 => (hL 79 (by decide))) eh8
        obtain ⟨h9, eh9, H⟩ := bind_some H
        have F := F.wri (fun q9 => (hL 80 (by decide))) eh9
        obtain rfl := Option.some.inj H
        exact F
def L_X8_row : List Nat := [79, 80, 81]
theorem fb_X8_row_48 {W : Nat → Bool} (hL : ∀ c ∈ L_X8_row, W c = true) (a1 : Int32) (s : (Int32 × Hp)) (out : (Int32 × Hp) ⊕ (Int32 × Hp)) (H : b_X8_row_48 a1 s = some out) : FW W ((fun s : (Int32 × Hp) => s.2) s) (Sum.elim (fun s : (Int32 × Hp) => s.2) (fun s : (Int32 × Hp) => s.2) out) := by
  unfold b_X8_row_48 at H
  have F := FW.refl W s.2
  rcases ite_e H with ⟨-, H⟩ | ⟨-, H⟩
  · obtain rfl := Option.some.inj H
    exact F
  · obtain ⟨h10, eh10, H⟩ := bind_some H
    have F := F.wrl (fun q9 => (hL 81 (by decide))) eh10
    obtain rfl := Option.some.inj H
    exact F
theorem fr_X8_row {W : Nat → Bool} (hL : ∀ c ∈ L_X8_row, W c = true) (a1 : Int32) (a2 : Int32) (a3 : Int32) (h : Hp) (out : (Int32 × Hp)) (H : f_X8_row a1 a2 a3 h = some out) : FW W h out.2 := by
  unfold f_X8_row at H
  have F := FW.refl W h
  obtain ⟨r1, hr1, H⟩ := bind_some H
  rcases ite_e H with ⟨-, H⟩ | ⟨-, H⟩
  · obtain rfl := Option.some.inj H
    exact F
  · obtain ⟨r3, hr3, H⟩ := bind_some H
    rcases ite_e H with ⟨-, H⟩ | ⟨-, H⟩
    · obtain rfl := Option.some.inj H
      exact F
    · rcases ite_e H with ⟨-, H⟩ | ⟨-, H⟩
      · rcases ite_e H with ⟨-, H⟩ | ⟨-, H⟩
        · obtain ⟨h7, eh7, H⟩ := bind_some H
          have F := F.wri (fun q9 => (hL 79 (by decide))) eh7
          obtain ⟨h8, eh8, H⟩ := bind_some H
          have F := F.wri (fun q9 => (hL 80 (by decide))) eh8
          obtain ⟨a11, ha11, H⟩ := bind_some H
          have F := F.trans (iter_F (hs := (fun s : (Int32 × Hp) => s.2)) (ha := (fun s : (Int32 × Hp) => s.2)) (fun s9 o9 ho9 => fb_X8_row_48 hL a1 s9 o9 ho9) _ (0, h8) _ ha11)
          obtain rfl := Option.some.inj H
          exact F
        · obtain rfl := Option.some.inj H
          exact F
      · obtain rfl := Option.some.inj H
        exact F
def L_X8_put : List Nat := [81]
theorem fr_X8_put {W : Nat → Bool} (hL : ∀ c ∈ L_X8_put, W c = true) (a1 : Int32) (a2 : Int32) (a3 : Int64) (h : Hp) (out : (Int32 × Hp)) (H : f_X8_put a1 a2 a3 h = some out) : FW W h out.2 := by
  unfold f_X8_put at H
  have F := FW.refl W h
  obtain ⟨r1, hr1, H⟩ := bind_some H
  rcases ite_e H with ⟨-, H⟩ | ⟨-, H⟩
  · obtain rfl := Option.some.inj H
    exact F
  · obtain ⟨v3, -, H⟩ := bind_some H
    rcases ite_e H with ⟨-, H⟩ | ⟨-, H⟩
    · obtain rfl := Option.some.inj H
      exact F
    · obtain ⟨r5, hr5, H⟩ := bind_some H
      rcases ite_e H with ⟨-, H⟩ | ⟨-, H⟩
      · obtain rfl := Option.some.inj H
        exact F
      · obtain ⟨v7, -, H⟩ := bind_some H
        obtain ⟨r8, hr8, H⟩ := bind_some H
        rcases ite_e H with ⟨-, H⟩ | ⟨-, H⟩
        · obtain rfl := Option.some.inj H
          exact F
        · obtain ⟨v10, -, H⟩ := bind_some H
          obtain ⟨r11, hr11, H⟩ := bind_some H
          obtain ⟨h12, eh12, H⟩ := bind_some H
          have F := F.wrl (fun q9 => (hL 81 (by decide))) eh12
          obtain rfl := Option.some.inj H
          exact F
def L_X8_shift : List Nat := [81]
theorem fb_X8_shift_188 {W : Nat → Bool} (hL : ∀ c ∈ L_X8_shift, W c = true) (a1 : Int32) (a2 : Int32) (a3 : Int32) (a4 : Int32) (a5 : Int32) (s : (Int32 × Hp)) (out : (Int32 × Hp) ⊕ (Int32 × Hp)) (H : b_X8_shift_188 a1 a2 a3 a4 a5 s = some out) : FW W ((fun s : (Int32 × Hp) => s.2) s) (Sum.elim (fun s : (Int32 × Hp) => s.2) (fun s : (Int32 × Hp) => s.2) out) := by
  unfold b_X8_shift_188 at H
  have F := FW.refl W s.2
  rcases ite_e H with ⟨-, H⟩ | ⟨-, H⟩
  · obtain rfl := Option.some.inj H
    exact F
  · obtain ⟨v25, -, H⟩ := bind_some H
    obtain ⟨h26, eh26, H⟩ := bind_some H
    have F := F.wrl (fun q9 => (hL 81 (by decide))) eh26
    obtain rfl := Option.some.inj H
    exact F
theorem fj_X8_shift_185 {W : Nat → Bool} (hL : ∀ c ∈ L_X8_shift, W c = true) (a1 : Int32) (a2 : Int32) (a3 : Int32) (a4 : Int32) (a5 : Int32) (h : Hp) (out : (Int32 × Hp)) (H : j_X8_shift_185 a1 a2 a3 a4 a5 h = some out) : FW W h out.2 := by
  unfold j_X8_shift_185 at H
  have F := FW.refl W h
  obtain ⟨a27, ha27, H⟩ := bind_some H
  have F := F.trans (iter_F (hs := (fun s : (Int32 × Hp) => s.2)) (ha := (fun s : (Int32 × Hp) => s.2)) (fun s9 o9 ho9 => fb_X8_shift_188 hL a1 a2 a3 a4 a5 s9 o9 ho9) _ (0, h) _ ha27)
  obtain rfl := Option.some.inj H
  exact F
theorem fb_X8_shift_142 {W : Nat → Bool} (hL : ∀ c ∈ L_X8_shift, W c = true) (a1 : Int32) (a2 : Int32) (a3 : Int32) (a4 : Int32) (a5 : Int32) (s : (Int32 × Hp)) (out : (Int32 × Hp) ⊕ (Int32 × Hp)) (H : b_X8_shift_142 a1 a2 a3 a4 a5 s = some out) : FW W ((fun s : (Int32 × Hp) => s.2) s) (Sum.elim (fun s : (Int32 × Hp) => s.2) (fun s : (Int32 × Hp) => s.2) out) := by
  unfold b_X8_shift_142 at H
  have F := FW.refl W s.2
  rcases ite_e H with ⟨-, H⟩ | ⟨-, H⟩
  · obtain rfl := Option.some.inj H
    exact F
  · obtain ⟨v30, -, H⟩ := bind_some H
    obtain ⟨h31, eh31, H⟩ := bind_some H
    have F := F.wrl (fun q9 => (hL 81 (by decide))) eh31
    obtain rfl := Option.some.inj H
    exact F
theorem fr_X8_shift {W : Nat → Bool} (hL : ∀ c ∈ L_X8_shift, W c = true) (a1 : Int32) (a2 : Int32) (a3 : Int32) (a4 : Int32) (a5 : Int32) (h : Hp) (out : (Int32 × Hp)) (H : f_X8_shift a1 a2 a3 a4 a5 h = some out) : FW W h out.2 := by
  unfold f_X8_shift at H
  have F := FW.refl W h
  obtain ⟨r1, hr1, H⟩ := bind_some H
  rcases ite_e H with ⟨-, H⟩ | ⟨-, H⟩
  · obtain rfl := Option.some.inj H
    exact F
  · obtain ⟨r3, hr3, H⟩ := bind_some H
    rcases ite_e H with ⟨-, H⟩ | ⟨-, H⟩
    · obtain rfl := Option.some.inj H
      exact F
    · obtain ⟨v5, -, H⟩ := bind_some H
      rcases ite_e H with ⟨-, H⟩ | ⟨-, H⟩
      · obtain rfl := Option.some.inj H
        exact F
      · obtain ⟨v7, -, H⟩ := bind_some H
        rcases ite_e H with ⟨-, H⟩ | ⟨-, H⟩
        · obtain rfl := Option.some.inj H
          exact F
        · obtain ⟨r9, hr9, H⟩ := bind_some H
          rcases ite_e H with ⟨-, H⟩ | ⟨-, H⟩
          · obtain rfl := Option.some.inj H
            exact F
          · obtain ⟨r11, hr11, H⟩ := bind_some H
            rcases ite_e H with ⟨-, H⟩ | ⟨-, H⟩
            · obtain rfl := Option.some.inj H
              exact F
            · obtain ⟨v13, -, H⟩ := bind_some H
              obtain ⟨v14, -, H⟩ := bind_some H
              rcases ite_e H with ⟨-, H⟩ | ⟨-, H⟩
              · rcases ite_e H with ⟨-, H⟩ | ⟨-, H⟩
                · obtain rfl := Option.some.inj H
                  exact F
                · rcases ite_e H with ⟨-, H⟩ | ⟨-, H⟩
                  · obtain rfl := Option.some.inj H
                    exact F
                  · rcases ite_e H with ⟨-, H⟩ | ⟨-, H⟩
                    · obtain rfl := Option.some.inj H
                      exact F
                    · obtain ⟨v19, -, H⟩ := bind_some H
                      rcases ite_e H with ⟨-, H⟩ | ⟨-, H⟩
                      · obtain rfl := Option.some.inj H
                        exact F
                      · obtain ⟨v21, -, H⟩ := bind_some H
                        rcases ite_e H with ⟨-, H⟩ | ⟨-, H⟩
                        · rcases ite_e H with ⟨-, H⟩ | ⟨-, H⟩
                          · rcases ite_e H with ⟨-, H⟩ | ⟨-, H⟩
                            · exact F.trans (fj_X8_shift_185 hL a1 a2 a3 a4 a5 h _ H)
                            · obtain ⟨a32, ha32, H⟩ := bind_some H
                              have F := F.trans (iter_F (hs := (fun s : (Int32 × Hp) => s.2)) (ha := (fun s : (Int32 × Hp) => s.2)) (fun s9 o9 ho9 => fb_X8_shift_142 hL a1 a2 a3 a4 a5 s9 o9 ho9) _ (a5 - 1, h) _ ha32)
                              obtain rfl := Option.some.inj H
                              exact F
                          · exact F.trans (fj_X8_shift_185 hL a1 a2 a3 a4 a5 h _ H)
                        · obtain rfl := Option.some.inj H
                          exact F
              · obtain rfl := Option.some.inj H
                exact F
def L_X7_mend : List Nat := [2, 3, 6, 13, 14, 15, 25, 26, 27, 28, 29]
theorem fr_X7_mend {W : Nat → Bool} (hL : ∀ c ∈ L_X7_mend, W c = true) (a1 : Int32) (a2 : Int32) (a3 : Int32) (h : Hp) (out : (Int32 × Hp)) (H : f_X7_mend a1 a2 a3 h = some out) : FW W h out.2 := by
  unfold f_X7_mend at H
  have F := FW.refl W h
  rcases ite_e H with ⟨-, H⟩ | ⟨-, H⟩
  · obtain rfl := Option.some.inj H
    exact F
  · rcases ite_e H with ⟨-, H⟩ | ⟨-, H⟩
    · obtain rfl := Option.some.inj H
      exact F
    · obtain ⟨r3, hr3, H⟩ := bind_some H
      rcases ite_e H with ⟨-, H⟩ | ⟨-, H⟩
      · obtain rfl := Option.some.inj H
        exact F
      · obtain ⟨v5, -, H⟩ := bind_some H
        rcases ite_e H with ⟨-, H⟩ | ⟨-, H⟩
        · obtain rfl := Option.some.inj H
          exact F
        · obtain ⟨v7, -, H⟩ := bind_some H
          rcases ite_e H with ⟨-, H⟩ | ⟨-, H⟩
          · obtain ⟨r9, hr9, H⟩ := bind_some H
            rcases ite_e H with ⟨-, H⟩ | ⟨-, H⟩
            · obtain rfl := Option.some.inj H
              exact F
            · obtain ⟨r11, hr11, H⟩ := bind_some H
              have F := F.trans (fr_X7_setValue (sub_L hL (by decide)) a1 a2 a3 h _ hr11)
              obtain ⟨r12, hr12, H⟩ := bind_some H
              have F := F.trans (fr_X0_note (sub_L hL (by decide)) a1 a2 r9 a3 r11 _ hr12)
              obtain rfl := Option.some.inj H
              exact F
          · obtain rfl := Option.some.inj H
            exact F
def L_X7_counts : List Nat := [11, 12]
theorem fr_X7_counts {W : Nat → Bool} (hL : ∀ c ∈ L_X7_counts, W c = true) (a1 : Int32) (a2 : Int32) (h : Hp) (out : (Int32 × Hp)) (H : f_X7_counts a1 a2 h = some out) : FW W h out.2 := by
  unfold f_X7_counts at H
  have F := FW.refl W h
  obtain ⟨r1, hr1, H⟩ := bind_some H
  rcases ite_e H with ⟨-, H⟩ | ⟨-, H⟩
  · obtain rfl := Option.some.inj H
    exact F
  · obtain ⟨r3, hr3, H⟩ := bind_some H
    rcases ite_e H with ⟨-, H⟩ | ⟨-, H⟩
    · obtain rfl := Option.some.inj H
      exact F
    · obtain ⟨r5, hr5, H⟩ := bind_some H
      have F := F.trans (fr_X7_worth (sub_L hL (by decide)) 13 a1 a2 h _ hr5)
      obtain rfl := Option.some.inj H
      exact F
def L_X7_forgive : List Nat := [11, 12]
theorem fr_X7_forgive {W : Nat → Bool} (hL : ∀ c ∈ L_X7_forgive, W c = true) (a1 : Nat) (a2 : Int32) (a3 : Int32) (h : Hp) (hw_a1 : W a1 = true) (hw_a1_0 : W (pf a1 0) = true) (out : (Int32 × Hp)) (H : f_X7_forgive a1 a2 a3 h = some out) : FW W h out.2 := by
  unfold f_X7_forgive at H
  have F := FW.refl W h
  obtain ⟨hga1, H⟩ := gd_some H
  obtain ⟨r1, hr1, H⟩ := bind_some H
  rcases ite_e H with ⟨-, H⟩ | ⟨-, H⟩
  · obtain ⟨r3, hr3, H⟩ := bind_some H
    have F := F.trans (fr_X7_worth (sub_L hL (by decide)) a1 a2 a3 h _ hr3)
    rcases ite_e H with ⟨-, H⟩ | ⟨-, H⟩
    · obtain rfl := Option.some.inj H
      exact F
    · obtain ⟨r5, hr5, H⟩ := bind_some H
      have F := F.trans (fr_X5_setForgiven (sub_L hL (by decide)) a1 a2 1 r3.2 hw_a1 _ hr5)
      obtain ⟨v6, -, H⟩ := bind_some H
      obtain ⟨h7, eh7, H⟩ := bind_some H
      have F := F.wri (fun q9 => hw_a1_0) eh7
      obtain rfl := Option.some.inj H
      exact F
  · obtain rfl := Option.some.inj H
    exact F
def L_X7_mostOf : List Nat := [11, 12]
theorem fb_X7_mostOf_5 {W : Nat → Bool} (hL : ∀ c ∈ L_X7_mostOf, W c = true) (a1 : Int32) (a2 : Int32) (s : (Int32 × Int32 × Hp)) (out : (Int32 × Int32 × Hp) ⊕ (Int32 × Int32 × Hp)) (H : b_X7_mostOf_5 a1 a2 s = some out) : FW W ((fun s : (Int32 × Int32 × Hp) => s.2.2) s) (Sum.elim (fun s : (Int32 × Int32 × Hp) => s.2.2) (fun s : (Int32 × Int32 × Hp) => s.2.2) out) := by
  unfold b_X7_mostOf_5 at H
  have F := FW.refl W s.2.2
  rcases ite_e H with ⟨-, H⟩ | ⟨-, H⟩
  · obtain rfl := Option.some.inj H
    exact F
  · obtain ⟨v2, -, H⟩ := bind_some H
    rcases ite_e H with ⟨-, H⟩ | ⟨-, H⟩
    · obtain ⟨r4, hr4, H⟩ := bind_some H
      rcases ite_e H with ⟨-, H⟩ | ⟨-, H⟩
      · obtain ⟨r6, hr6, H⟩ := bind_some H
        have F := F.trans (fr_X7_worth (sub_L hL (by decide)) 17 s.2.1 a2 s.2.2 _ hr6)
        rcases ite_e H with ⟨-, H⟩ | ⟨-, H⟩
        · obtain rfl := Option.some.inj H
          exact F
        · obtain rfl := Option.some.inj H
          exact F
      · obtain rfl := Option.some.inj H
        exact F
    · obtain rfl := Option.some.inj H
      exact F
theorem fr_X7_mostOf {W : Nat → Bool} (hL : ∀ c ∈ L_X7_mostOf, W c = true) (a1 : Int32) (a2 : Int32) (h : Hp) (out : (Int32 × Hp)) (H : f_X7_mostOf a1 a2 h = some out) : FW W h out.2 := by
  unfold f_X7_mostOf at H
  have F := FW.refl W h
  obtain ⟨a8, ha8, H⟩ := bind_some H
  have F := F.trans (iter_F (hs := (fun s : (Int32 × Int32 × Hp) => s.2.2)) (ha := (fun s : (Int32 × Int32 × Hp) => s.2.2)) (fun s9 o9 ho9 => fb_X7_mostOf_5 hL a1 a2 s9 o9 ho9) _ (0, 0, h) _ ha8)
  obtain rfl := Option.some.inj H
  exact F
def L_X7_image : List Nat := [0, 21, 22, 23, 24]
theorem fr_X7_image {W : Nat → Bool} (hL : ∀ c ∈ L_X7_image, W c = true) (h : Hp) (out : (Int32 × Hp)) (H : f_X7_image h = some out) : FW W h out.2 := by
  unfold f_X7_image at H
  have F := FW.refl W h
  obtain ⟨r1, hr1, H⟩ := bind_some H
  have F := F.trans (fr_X5_become (sub_L hL (by decide)) 21 13 h (hL 22 (by decide)) (hL 23 (by decide)) (hL 24 (by decide)) (hL 21 (by decide)) _ hr1)
  obtain ⟨h2, eh2, H⟩ := lt_e H
  have F := F.st (fun q9 => (hL 0 (by decide))) eh2
  obtain ⟨h3, eh3, H⟩ := lt_e H
  have F := F.st (fun q9 => (hL 0 (by decide))) eh3
  obtain ⟨v4, -, H⟩ := bind_some H
  obtain rfl := Option.some.inj H
  exact F
def L_X8_wrong : List Nat := [53, 57, 58, 59, 60, 61]
theorem fr_X8_wrong {W : Nat → Bool} (hL : ∀ c ∈ L_X8_wrong, W c = true) (a1 : Int32) (a2 : Int32) (h : Hp) (out : (Int32 × Hp)) (H : f_X8_wrong a1 a2 h = some out) : FW W h out.2 := by
  unfold f_X8_wrong at H
  have F := FW.refl W h
  rcases ite_e H with ⟨-, H⟩ | ⟨-, H⟩
  · obtain rfl := Option.some.inj H
    exact F
  · obtain ⟨r2, hr2, H⟩ := bind_some H
    rcases ite_e H with ⟨-, H⟩ | ⟨-, H⟩
    · obtain rfl := Option.some.inj H
      exact F
    · rcases ite_e H with ⟨-, H⟩ | ⟨-, H⟩
      · obtain rfl := Option.some.inj H
        exact F
      · obtain ⟨r5, hr5, H⟩ := bind_some H
        have F := F.trans (fr_X8_newWrong (sub_L hL (by decide)) (a1 / 10) (a1 % 10) a2 h _ hr5)
        obtain rfl := Option.some.inj H
        exact F
def L_X8_wrongs : List Nat := [53, 57, 58, 59, 60, 61]
theorem fb_X8_wrongs_49 {W : Nat → Bool} (hL : ∀ c ∈ L_X8_wrongs, W c = true) (a1 : Int32) (a2 : Int32) (a3 : Int32) (s : (Int32 × Int32 × Hp)) (out : (Int32 × Int32 × Hp) ⊕ ((Int32 × Int32 × Hp) ⊕ (Int32 × Hp))) (H : b_X8_wrongs_49 a1 a2 a3 s = some out) : FW W ((fun s : (Int32 × Int32 × Hp) => s.2.2) s) (Sum.elim (fun s : (Int32 × Int32 × Hp) => s.2.2) (Sum.elim (fun s : (Int32 × Int32 × Hp) => s.2.2) (fun r : (Int32 × Hp) => r.2)) out) := by
  unfold b_X8_wrongs_49 at H
  have F := FW.refl W s.2.2
  rcases ite_e H with ⟨-, H⟩ | ⟨-, H⟩
  · obtain rfl := Option.some.inj H
    exact F
  · rcases ite_e H with ⟨-, H⟩ | ⟨-, H⟩
    · obtain rfl := Option.some.inj H
      exact F
    · obtain ⟨v11, -, H⟩ := bind_some H
      rcases ite_e H with ⟨-, H⟩ | ⟨-, H⟩
      · obtain rfl := Option.some.inj H
        exact F
      · rcases ite_e H with ⟨-, H⟩ | ⟨-, H⟩
        · obtain rfl := Option.some.inj H
          exact F
        · obtain ⟨r14, hr14, H⟩ := bind_some H
          obtain ⟨r15, hr15, H⟩ := bind_some H
          obtain ⟨r16, hr16, H⟩ := bind_some H
          obtain ⟨r17, hr17, H⟩ := bind_some H
          rcases ite_e H with ⟨-, H⟩ | ⟨-, H⟩
          · obtain rfl := Option.some.inj H
            exact F
          · obtain ⟨r19, hr19, H⟩ := bind_some H
            obtain ⟨r20, hr20, H⟩ := bind_some H
            obtain ⟨r21, hr21, H⟩ := bind_some H
            obtain ⟨r22, hr22, H⟩ := bind_some H
            have F := F.trans (fr_X8_newWrong (sub_L hL (by decide)) r19 r20 r21 s.2.2 _ hr22)
            obtain rfl := Option.some.inj H
            exact F
theorem fr_X8_wrongs {W : Nat → Bool} (hL : ∀ c ∈ L_X8_wrongs, W c = true) (a1 : Int32) (a2 : Int32) (a3 : Int32) (h : Hp) (out : (Int32 × Hp)) (H : f_X8_wrongs a1 a2 a3 h = some out) : FW W h out.2 := by
  unfold f_X8_wrongs at H
  have F := FW.refl W h
  obtain ⟨r1, hr1, H⟩ := bind_some H
  rcases ite_e H with ⟨-, H⟩ | ⟨-, H⟩
  · obtain rfl := Option.some.inj H
    exact F
  · obtain ⟨r3, hr3, H⟩ := bind_some H
    rcases ite_e H with ⟨-, H⟩ | ⟨-, H⟩
    · obtain rfl := Option.some.inj H
      exact F
    · obtain ⟨v5, -, H⟩ := bind_some H
      rcases ite_e H with ⟨-, H⟩ | ⟨-, H⟩
      · obtain rfl := Option.some.inj H
        exact F
      · obtain ⟨v7, -, H⟩ := bind_some H
        rcases ite_e H with ⟨-, H⟩ | ⟨-, H⟩
        · obtain ⟨a23o, ha23, hca23⟩ := it_R H
          have F := F.trans (iter_F (hs := (fun s : (Int32 × Int32 × Hp) => s.2.2)) (ha := (Sum.elim (fun s : (Int32 × Int32 × Hp) => s.2.2) (fun r : (Int32 × Hp) => r.2))) (fun s9 o9 ho9 => fb_X8_wrongs_49 hL a1 a2 a3 s9 o9 ho9) _ (0, 0, h) _ ha23)
          rcases hca23 with ⟨a23, rfl, H⟩ | ⟨r, rfl, H⟩
          · obtain rfl := Option.some.inj H
            exact F
          · obtain rfl := Option.some.inj H
            exact F
        · obtain rfl := Option.some.inj H
          exact F
def L_X8_mend : List Nat := [53, 54, 55, 56, 59, 60, 61, 76]
theorem fj_X8_mend_96 {W : Nat → Bool} (hL : ∀ c ∈ L_X8_mend, W c = true) (a1 : Int32) (a2 : Int32) (a3 : Int32) (a4 : Int32) (h : Hp) (out : (Int32 × Hp)) (H : j_X8_mend_96 a1 a2 a3 a4 h = some out) : FW W h out.2 := by
  unfold j_X8_mend_96 at H
  have F := FW.refl W h
  obtain ⟨h9, eh9, H⟩ := bind_some H
  have F := F.wri (fun q9 => (hL 76 (by decide))) eh9
  obtain ⟨h10, eh10, H⟩ := bind_some H
  have F := F.wri (fun q9 => (hL 76 (by decide))) eh10
  obtain ⟨h11, eh11, H⟩ := bind_some H
  have F := F.wri (fun q9 => (hL 76 (by decide))) eh11
  obtain ⟨h12, eh12, H⟩ := bind_some H
  have F := F.wri (fun q9 => (hL 76 (by decide))) eh12
  obtain ⟨h13, eh13, H⟩ := lt_e H
  have F := F.st (fun q9 => (hL 53 (by decide))) eh13
  obtain ⟨h14, eh14, H⟩ := lt_e H
  have F := F.st (fun q9 => (hL 53 (by decide))) eh14
  obtain rfl := Option.some.inj H
  exact F
theorem fb_X8_mend_56 {W : Nat → Bool} (hL : ∀ c ∈ L_X8_mend, W c = true) (a1 : Int32) (a2 : Int32) (a3 : Int32) (a4 : Int32) (s : (Int32 × Hp)) (out : (Int32 × Hp) ⊕ (Int32 × Hp)) (H : b_X8_mend_56 a1 a2 a3 a4 s = some out) : FW W ((fun s : (Int32 × Hp) => s.2) s) (Sum.elim (fun s : (Int32 × Hp) => s.2) (fun s : (Int32 × Hp) => s.2) out) := by
  unfold b_X8_mend_56 at H
  have F := FW.refl W s.2
  rcases ite_e H with ⟨-, H⟩ | ⟨-, H⟩
  · obtain rfl := Option.some.inj H
    exact F
  · obtain ⟨v16, -, H⟩ := bind_some H
    obtain ⟨h17, eh17, H⟩ := bind_some H
    have F := F.wri (fun q9 => (hL 76 (by decide))) eh17
    obtain rfl := Option.some.inj H
    exact F
theorem fr_X8_mend {W : Nat → Bool} (hL : ∀ c ∈ L_X8_mend, W c = true) (a1 : Int32) (a2 : Int32) (a3 : Int32) (h : Hp) (out : (Int32 × Hp)) (H : f_X8_mend a1 a2 a3 h = some out) : FW W h out.2 := by
  unfold f_X8_mend at H
  have F := FW.refl W h
  obtain ⟨r1, hr1, H⟩ := bind_some H
  rcases ite_e H with ⟨-, H⟩ | ⟨-, H⟩
  · obtain rfl := Option.some.inj H
    exact F
  · obtain ⟨r3, hr3, H⟩ := bind_some H
    rcases ite_e H with ⟨-, H⟩ | ⟨-, H⟩
    · obtain rfl := Option.some.inj H
      exact F
    · obtain ⟨r5, hr5, H⟩ := bind_some H
      rcases ite_e H with ⟨-, H⟩ | ⟨-, H⟩
      · obtain rfl := Option.some.inj H
        exact F
      · obtain ⟨r7, hr7, H⟩ := bind_some H
        have F := F.trans (fr_X8_becomes (sub_L hL (by decide)) a1 a2 a3 h _ hr7)
        rcases ite_e H with ⟨-, H⟩ | ⟨-, H⟩
        · obtain ⟨a18, ha18, H⟩ := bind_some H
          have F := F.trans (iter_F (hs := (fun s : (Int32 × Hp) => s.2)) (ha := (fun s : (Int32 × Hp) => s.2)) (fun s9 o9 ho9 => fb_X8_mend_56 hL a1 a2 a3 r5 s9 o9 ho9) _ (0, r7) _ ha18)
          obtain ⟨h19, eh19, H⟩ := lt_e H
          have F := F.st (fun q9 => (hL 53 (by decide))) eh19
          exact F.trans (fj_X8_mend_96 hL a1 a2 a3 r5 h19 _ H)
        · exact F.trans (fj_X8_mend_96 hL a1 a2 a3 r5 r7 _ H)
def L_X8_countOf : List Nat := [71, 72]
theorem fj_X8_countOf_46 {W : Nat → Bool} (hL : ∀ c ∈ L_X8_countOf, W c = true) (a1 : Int32) (t0 : Int32) (t1 : Int32) (h : Hp) (out : (Int32 × Hp)) (H : j_X8_countOf_46 a1 t0 t1 h = some out) : FW W h out.2 := by
  unfold j_X8_countOf_46 at H
  have F := FW.refl W h
  obtain ⟨r6, hr6, H⟩ := bind_some H
  obtain rfl := Option.some.inj H
  exact F
theorem fr_X8_countOf {W : Nat → Bool} (hL : ∀ c ∈ L_X8_countOf, W c = true) (a1 : Int32) (a2 : Int32) (h : Hp) (out : (Int32 × Hp)) (H : f_X8_countOf a1 a2 h = some out) : FW W h out.2 := by
  unfold f_X8_countOf at H
  have F := FW.refl W h
  rcases ite_e H with ⟨-, H⟩ | ⟨-, H⟩
  · obtain ⟨v2, -, H⟩ := bind_some H
    obtain ⟨v3, -, H⟩ := bind_some H
    obtain ⟨v4, -, H⟩ := bind_some H
    rcases ite_e H with ⟨-, H⟩ | ⟨-, H⟩
    · exact F.trans (fj_X8_countOf_46 hL a1 1 (1 + (v2 / 3)) h _ H)
    · exact F.trans (fj_X8_countOf_46 hL a1 0 (1 + (v2 / 3)) h _ H)
  · obtain ⟨r7, hr7, H⟩ := bind_some H
    have F := F.trans (fr_X8_byLaw (sub_L hL (by decide)) a1 a2 h _ hr7)
    obtain rfl := Option.some.inj H
    exact F
def L_X7_callOf : List Nat := [11, 12, 17, 18]
theorem fr_X7_callOf {W : Nat → Bool} (hL : ∀ c ∈ L_X7_callOf, W c = true) (a1 : Int32) (a2 : Int32) (h : Hp) (out : (Int32 × Hp)) (H : f_X7_callOf a1 a2 h = some out) : FW W h out.2 := by
  unfold f_X7_callOf at H
  have F := FW.refl W h
  obtain ⟨r1, hr1, H⟩ := bind_some H
  obtain ⟨r2, hr2, H⟩ := bind_some H
  have F := F.trans (fr_X7_forgive (sub_L hL (by decide)) 17 (r1.toInt32 / 12) (r1.toInt32 % 12) h (hL 17 (by decide)) (hL 18 (by decide)) _ hr2)
  obtain rfl := Option.some.inj H
  exact F
def L_X7_mendsIn : List Nat := [11, 12, 17, 18, 49]
theorem fj_X7_mendsIn_59 {W : Nat → Bool} (hL : ∀ c ∈ L_X7_mendsIn, W c = true) (a1 : Int32) (a2 : Int32) (a3 : Int32) (c4 : Int32) (t0 : Int32) (h : Hp) (out : (Int32 × Hp) ⊕ ((Int32 × Hp) ⊕ (Int32 × Hp))) (H : j_X7_mendsIn_59 a1 a2 a3 c4 t0 h = some out) : FW W h (Sum.elim (fun s : (Int32 × Hp) => s.2) (Sum.elim (fun s : (Int32 × Hp) => s.2) (fun r : (Int32 × Hp) => r.2)) out) := by
  unfold j_X7_mendsIn_59 at H
  have F := FW.refl W h
  obtain ⟨h7, eh7, H⟩ := bind_some H
  have F := F.wri (fun q9 => (hL 18 (by decide))) eh7
  obtain ⟨r8, hr8, H⟩ := bind_some H
  have F := F.trans (fr_X5_setForgiven (sub_L hL (by decide)) 17 c4 0 h7 (hL 17 (by decide)) _ hr8)
  rcases ite_e H with ⟨-, H⟩ | ⟨-, H⟩
  · obtain rfl := Option.some.inj H
    exact F
  · obtain ⟨h10, eh10, H⟩ := bind_some H
    have F := F.wri (fun q9 => (hL 49 (by decide))) eh10
    obtain rfl := Option.some.inj H
    exact F
theorem fb_X7_mendsIn_13 {W : Nat → Bool} (hL : ∀ c ∈ L_X7_mendsIn, W c = true) (a1 : Int32) (a2 : Int32) (a3 : Int32) (s : (Int32 × Hp)) (out : (Int32 × Hp) ⊕ ((Int32 × Hp) ⊕ (Int32 × Hp))) (H : b_X7_mendsIn_13 a1 a2 a3 s = some out) : FW W ((fun s : (Int32 × Hp) => s.2) s) (Sum.elim (fun s : (Int32 × Hp) => s.2) (Sum.elim (fun s : (Int32 × Hp) => s.2) (fun r : (Int32 × Hp) => r.2)) out) := by
  unfold b_X7_mendsIn_13 at H
  have F := FW.refl W s.2
  rcases ite_e H with ⟨-, H⟩ | ⟨-, H⟩
  · obtain rfl := Option.some.inj H
    exact F
  · obtain ⟨r3, hr3, H⟩ := bind_some H
    have F := F.trans (fr_X7_forgive (sub_L hL (by decide)) 17 s.1 a1 s.2 (hL 17 (by decide)) (hL 18 (by decide)) _ hr3)
    rcases ite_e H with ⟨-, H⟩ | ⟨-, H⟩
    · obtain rfl := Option.some.inj H
      exact F
    · obtain ⟨r5, hr5, H⟩ := bind_some H
      rcases ite_e H with ⟨-, H⟩ | ⟨-, H⟩
      · exact F.trans (fj_X7_mendsIn_59 hL a1 a2 a3 s.1 1 r3.2 _ H)
      · exact F.trans (fj_X7_mendsIn_59 hL a1 a2 a3 s.1 0 r3.2 _ H)
theorem fr_X7_mendsIn {W : Nat → Bool} (hL : ∀ c ∈ L_X7_mendsIn, W c = true) (a1 : Int32) (a2 : Int32) (h : Hp) (out : (Int32 × Hp)) (H : f_X7_mendsIn a1 a2 h = some out) : FW W h out.2 := by
  unfold f_X7_mendsIn at H
  have F := FW.refl W h
  obtain ⟨v1, -, H⟩ := bind_some H
  obtain ⟨a11o, ha11, hca11⟩ := it_R H
  have F := F.trans (iter_F (hs := (fun s : (Int32 × Hp) => s.2)) (ha := (Sum.elim (fun s : (Int32 × Hp) => s.2) (fun r : (Int32 × Hp) => r.2))) (fun s9 o9 ho9 => fb_X7_mendsIn_13 hL a1 a2 v1 s9 o9 ho9) _ (0, h) _ ha11)
  rcases hca11 with ⟨a11, rfl, H⟩ | ⟨r, rfl, H⟩
  · obtain rfl := Option.some.inj H
    exact F
  · obtain rfl := Option.some.inj H
    exact F
def L_X7_all : List Nat := [11, 12, 17, 18, 19, 20]
theorem fb_X7_all_22 {W : Nat → Bool} (hL : ∀ c ∈ L_X7_all, W c = true) (a1 : Int32) (s : (Int32 × Hp)) (out : (Int32 × Hp) ⊕ (Int32 × Hp)) (H : b_X7_all_22 a1 s = some out) : FW W ((fun s : (Int32 × Hp) => s.2) s) (Sum.elim (fun s : (Int32 × Hp) => s.2) (fun s : (Int32 × Hp) => s.2) out) := by
  unfold b_X7_all_22 at H
  have F := FW.refl W s.2
  rcases ite_e H with ⟨-, H⟩ | ⟨-, H⟩
  · obtain rfl := Option.some.inj H
    exact F
  · obtain ⟨r5, hr5, H⟩ := bind_some H
    have F := F.trans (fr_X7_forgive (sub_L hL (by decide)) 17 s.1 a1 s.2 (hL 17 (by decide)) (hL 18 (by decide)) _ hr5)
    obtain rfl := Option.some.inj H
    exact F
theorem fr_X7_all {W : Nat → Bool} (hL : ∀ c ∈ L_X7_all, W c = true) (a1 : Int32) (h : Hp) (out : (Int32 × Hp)) (H : f_X7_all a1 h = some out) : FW W h out.2 := by
  unfold f_X7_all at H
  have F := FW.refl W h
  obtain ⟨r1, hr1, H⟩ := bind_some H
  rcases ite_e H with ⟨-, H⟩ | ⟨-, H⟩
  · obtain rfl := Option.some.inj H
    exact F
  · obtain ⟨r3, hr3, H⟩ := bind_some H
    have F := F.trans (fr_X5_become (sub_L hL (by decide)) 17 13 h (hL 18 (by decide)) (hL 19 (by decide)) (hL 20 (by decide)) (hL 17 (by decide)) _ hr3)
    obtain ⟨a6, ha6, H⟩ := bind_some H
    have F := F.trans (iter_F (hs := (fun s : (Int32 × Hp) => s.2)) (ha := (fun s : (Int32 × Hp) => s.2)) (fun s9 o9 ho9 => fb_X7_all_22 hL a1 s9 o9 ho9) _ (0, r3) _ ha6)
    obtain ⟨v7, -, H⟩ := bind_some H
    obtain rfl := Option.some.inj H
    exact F
def L_X7_numberBehind : List Nat := [11, 12, 17, 18]
theorem fj_X7_numberBehind_84 {W : Nat → Bool} (hL : ∀ c ∈ L_X7_numberBehind, W c = true) (a2 : Int32) (a4 : Int32) (a5 : Int32) (a6 : Int32) (a7 : Int32) (h : Hp) (out : (Int32 × Hp)) (H : j_X7_numberBehind_84 a2 a4 a5 a6 a7 h = some out) : FW W h out.2 := by
  unfold j_X7_numberBehind_84 at H
  have F := FW.refl W h
  obtain ⟨h7, eh7, H⟩ := bind_some H
  have F := F.wri (fun q9 => (hL 18 (by decide))) eh7
  rcases ite_e H with ⟨-, H⟩ | ⟨-, H⟩
  · obtain rfl := Option.some.inj H
    exact F
  · obtain ⟨r9, hr9, H⟩ := bind_some H
    have F := F.trans (fr_X5_setForgiven (sub_L hL (by decide)) 17 a2 0 h7 (hL 17 (by decide)) _ hr9)
    obtain rfl := Option.some.inj H
    exact F
theorem fj_X7_numberBehind_53 {W : Nat → Bool} (hL : ∀ c ∈ L_X7_numberBehind, W c = true) (a1 : Int32) (a2 : Int32) (a3 : Int32) (a4 : Int32) (a5 : Int32) (t0 : Int32) (h : Hp) (out : (Int32 × Hp)) (H : j_X7_numberBehind_53 a1 a2 a3 a4 a5 t0 h = some out) : FW W h out.2 := by
  unfold j_X7_numberBehind_53 at H
  have F := FW.refl W h
  obtain ⟨v5, -, H⟩ := bind_some H
  rcases ite_e H with ⟨-, H⟩ | ⟨-, H⟩
  · exact F.trans (fj_X7_numberBehind_84 hL a2 a4 a5 t0 v5 h _ H)
  · obtain ⟨r10, hr10, H⟩ := bind_some H
    have F := F.trans (fr_X7_mostOf (sub_L hL (by decide)) a1 a4 h _ hr10)
    exact F.trans (fj_X7_numberBehind_84 hL a2 a4 a5 t0 (v5 + r10.1) r10.2 _ H)
theorem fj_X7_numberBehind_52 {W : Nat → Bool} (hL : ∀ c ∈ L_X7_numberBehind, W c = true) (a1 : Int32) (a2 : Int32) (a3 : Int32) (a4 : Int32) (a5 : Int32) (h : Hp) (out : (Int32 × Hp)) (H : j_X7_numberBehind_52 a1 a2 a3 a4 a5 h = some out) : FW W h out.2 := by
  unfold j_X7_numberBehind_52 at H
  have F := FW.refl W h
  exact F.trans (fj_X7_numberBehind_53 hL a1 a2 a3 a4 a5 0 h _ H)
theorem fr_X7_numberBehind {W : Nat → Bool} (hL : ∀ c ∈ L_X7_numberBehind, W c = true) (a1 : Int32) (a2 : Int32) (a3 : Int32) (h : Hp) (out : (Int32 × Hp)) (H : f_X7_numberBehind a1 a2 a3 h = some out) : FW W h out.2 := by
  unfold f_X7_numberBehind at H
  have F := FW.refl W h
  obtain ⟨v1, -, H⟩ := bind_some H
  obtain ⟨v2, -, H⟩ := bind_some H
  obtain ⟨r3, hr3, H⟩ := bind_some H
  rcases ite_e H with ⟨-, H⟩ | ⟨-, H⟩
  · exact F.trans (fj_X7_numberBehind_52 hL a1 a2 a3 v1 v2 h _ H)
  · obtain ⟨r11, hr11, H⟩ := bind_some H
    have F := F.trans (fr_X7_forgive (sub_L hL (by decide)) 17 a2 v1 h (hL 17 (by decide)) (hL 18 (by decide)) _ hr11)
    rcases ite_e H with ⟨-, H⟩ | ⟨-, H⟩
    · exact F.trans (fj_X7_numberBehind_52 hL a1 a2 a3 v1 v2 r11.2 _ H)
    · exact F.trans (fj_X7_numberBehind_53 hL a1 a2 a3 v1 v2 1 r11.2 _ H)
def L_X7_liveDay : List Nat := [11, 12, 17, 18, 19]
theorem fr_X7_liveDay {W : Nat → Bool} (hL : ∀ c ∈ L_X7_liveDay, W c = true) (a1 : Int32) (h : Hp) (out : Hp) (H : f_X7_liveDay a1 h = some out) : FW W h out := by
  unfold f_X7_liveDay at H
  have F := FW.refl W h
  rcases ite_e H with ⟨-, H⟩ | ⟨-, H⟩
  · obtain ⟨r2, hr2, H⟩ := bind_some H
    have F := F.trans (fr_X5_pass (sub_L hL (by decide)) 17 1 h (hL 17 (by decide)) _ hr2)
    obtain rfl := Option.some.inj H
    exact F
  · obtain ⟨v3, -, H⟩ := bind_some H
    obtain ⟨r4, hr4, H⟩ := bind_some H
    rcases ite_e H with ⟨-, H⟩ | ⟨-, H⟩
    · obtain ⟨r6, hr6, H⟩ := bind_some H
      have F := F.trans (fr_X7_forgive (sub_L hL (by decide)) 17 v3 ((ushr a1 16) % 12) h (hL 17 (by decide)) (hL 18 (by decide)) _ hr6)
      obtain ⟨r7, hr7, H⟩ := bind_some H
      have F := F.trans (fr_X5_pass (sub_L hL (by decide)) 17 1 r6.2 (hL 17 (by decide)) _ hr7)
      obtain rfl := Option.some.inj H
      exact F
    · obtain ⟨r8, hr8, H⟩ := bind_some H
      have F := F.trans (fr_X5_doAgain (sub_L hL (by decide)) 17 v3 h (hL 17 (by decide)) (hL 19 (by decide)) _ hr8)
      obtain ⟨r9, hr9, H⟩ := bind_some H
      have F := F.trans (fr_X5_pass (sub_L hL (by decide)) 17 1 r8 (hL 17 (by decide)) _ hr9)
      obtain rfl := Option.some.inj H
      exact F
def L_X7_call : List Nat := [11, 12, 13, 14, 16]
theorem fr_X7_call {W : Nat → Bool} (hL : ∀ c ∈ L_X7_call, W c = true) (a1 : Int32) (a2 : Int32) (h : Hp) (out : (Int32 × Hp)) (H : f_X7_call a1 a2 h = some out) : FW W h out.2 := by
  unfold f_X7_call at H
  have F := FW.refl W h
  obtain ⟨r1, hr1, H⟩ := bind_some H
  rcases ite_e H with ⟨-, H⟩ | ⟨-, H⟩
  · obtain rfl := Option.some.inj H
    exact F
  · obtain ⟨r3, hr3, H⟩ := bind_some H
    rcases ite_e H with ⟨-, H⟩ | ⟨-, H⟩
    · obtain rfl := Option.some.inj H
      exact F
    · obtain ⟨r5, hr5, H⟩ := bind_some H
      have F := F.trans (fr_X7_forgive (sub_L hL (by decide)) 13 a1 a2 h (hL 13 (by decide)) (hL 14 (by decide)) _ hr5)
      rcases ite_e H with ⟨-, H⟩ | ⟨-, H⟩
      · obtain ⟨v11, -, H⟩ := bind_some H
        obtain ⟨h12, eh12, H⟩ := bind_some H
        have F := F.wri (fun q9 => (hL 16 (by decide))) eh12
        obtain rfl := Option.some.inj H
        exact F
      · obtain ⟨v7, -, H⟩ := bind_some H
        obtain ⟨h8, eh8, H⟩ := bind_some H
        have F := F.wri (fun q9 => (hL 16 (by decide))) eh8
        obtain ⟨v9, -, H⟩ := bind_some H
        obtain ⟨h10, eh10, H⟩ := bind_some H
        have F := F.wri (fun q9 => (hL 16 (by decide))) eh10
        obtain rfl := Option.some.inj H
        exact F
def L_X8_counts : List Nat := [71, 72]
theorem fr_X8_counts {W : Nat → Bool} (hL : ∀ c ∈ L_X8_counts, W c = true) (a1 : Int32) (a2 : Int32) (h : Hp) (out : (Int32 × Hp)) (H : f_X8_counts a1 a2 h = some out) : FW W h out.2 := by
  unfold f_X8_counts at H
  have F := FW.refl W h
  obtain ⟨r1, hr1, H⟩ := bind_some H
  rcases ite_e H with ⟨-, H⟩ | ⟨-, H⟩
  · obtain rfl := Option.some.inj H
    exact F
  · obtain ⟨r3, hr3, H⟩ := bind_some H
    rcases ite_e H with ⟨-, H⟩ | ⟨-, H⟩
    · obtain rfl := Option.some.inj H
      exact F
    · obtain ⟨r5, hr5, H⟩ := bind_some H
      have F := F.trans (fr_X8_countOf (sub_L hL (by decide)) a1 a2 h _ hr5)
      obtain rfl := Option.some.inj H
      exact F
def L_X8_calls : List Nat := [54, 61, 71, 72]
theorem fj_X8_calls_20 {W : Nat → Bool} (hL : ∀ c ∈ L_X8_calls, W c = true) (a1 : Int32) (a2 : Int32) (t0 : Int32) (h : Hp) (out : (Int32 × Hp)) (H : j_X8_calls_20 a1 a2 t0 h = some out) : FW W h out.2 := by
  unfold j_X8_calls_20 at H
  have F := FW.refl W h
  rcases ite_e H with ⟨-, H⟩ | ⟨-, H⟩
  · obtain rfl := Option.some.inj H
    exact F
  · obtain ⟨h5, eh5, H⟩ := bind_some H
    have F := F.wri (fun q9 => (hL 61 (by decide))) eh5
    obtain ⟨v6, -, H⟩ := bind_some H
    obtain ⟨h7, eh7, H⟩ := bind_some H
    have F := F.wri (fun q9 => (hL 54 (by decide))) eh7
    obtain rfl := Option.some.inj H
    exact F
theorem fr_X8_calls {W : Nat → Bool} (hL : ∀ c ∈ L_X8_calls, W c = true) (a1 : Int32) (a2 : Int32) (h : Hp) (out : (Int32 × Hp)) (H : f_X8_calls a1 a2 h = some out) : FW W h out.2 := by
  unfold f_X8_calls at H
  have F := FW.refl W h
  obtain ⟨v1, -, H⟩ := bind_some H
  rcases ite_e H with ⟨-, H⟩ | ⟨-, H⟩
  · exact F.trans (fj_X8_calls_20 hL a1 a2 0 h _ H)
  · obtain ⟨r3, hr3, H⟩ := bind_some H
    have F := F.trans (fr_X8_countOf (sub_L hL (by decide)) a1 a2 h _ hr3)
    exact F.trans (fj_X8_calls_20 hL a1 a2 r3.1 r3.2 _ H)
def L_X8_atOnce : List Nat := [71, 72]
theorem fb_X8_atOnce_10 {W : Nat → Bool} (hL : ∀ c ∈ L_X8_atOnce, W c = true) (a1 : Int32) (s : (Int32 × Int32 × Int32 × Int32 × Hp)) (out : (Int32 × Int32 × Int32 × Int32 × Hp) ⊕ ((Int32 × Int32 × Int32 × Int32 × Hp) ⊕ (Int32 × Hp))) (H : b_X8_atOnce_10 a1 s = some out) : FW W ((fun s : (Int32 × Int32 × Int32 × Int32 × Hp) => s.2.2.2.2) s) (Sum.elim (fun s : (Int32 × Int32 × Int32 × Int32 × Hp) => s.2.2.2.2) (Sum.elim (fun s : (Int32 × Int32 × Int32 × Int32 × Hp) => s.2.2.2.2) (fun r : (Int32 × Hp) => r.2)) out) := by
  unfold b_X8_atOnce_10 at H
  have F := FW.refl W s.2.2.2.2
  rcases ite_e H with ⟨-, H⟩ | ⟨-, H⟩
  · obtain rfl := Option.some.inj H
    exact F
  · rcases ite_e H with ⟨-, H⟩ | ⟨-, H⟩
    · obtain rfl := Option.some.inj H
      exact F
    · obtain ⟨v3, -, H⟩ := bind_some H
      obtain ⟨v4, -, H⟩ := bind_some H
      obtain ⟨v5, -, H⟩ := bind_some H
      rcases ite_e H with ⟨-, H⟩ | ⟨-, H⟩
      · obtain rfl := Option.some.inj H
        exact F
      · obtain ⟨v7, -, H⟩ := bind_some H
        rcases ite_e H with ⟨-, H⟩ | ⟨-, H⟩
        · obtain rfl := Option.some.inj H
          exact F
        · rcases ite_e H with ⟨-, H⟩ | ⟨-, H⟩
          · obtain rfl := Option.some.inj H
            exact F
          · obtain ⟨v10, -, H⟩ := bind_some H
            obtain ⟨r11, hr11, H⟩ := bind_some H
            have F := F.trans (fr_X8_countOf (sub_L hL (by decide)) s.2.2.2.1 v4 s.2.2.2.2 _ hr11)
            obtain rfl := Option.some.inj H
            exact F
theorem fr_X8_atOnce {W : Nat → Bool} (hL : ∀ c ∈ L_X8_atOnce, W c = true) (a1 : Int32) (h : Hp) (out : (Int32 × Hp)) (H : f_X8_atOnce a1 h = some out) : FW W h out.2 := by
  unfold f_X8_atOnce at H
  have F := FW.refl W h
  obtain ⟨a12o, ha12, hca12⟩ := it_R H
  have F := F.trans (iter_F (hs := (fun s : (Int32 × Int32 × Int32 × Int32 × Hp) => s.2.2.2.2)) (ha := (Sum.elim (fun s : (Int32 × Int32 × Int32 × Int32 × Hp) => s.2.2.2.2) (fun r : (Int32 × Hp) => r.2))) (fun s9 o9 ho9 => fb_X8_atOnce_10 hL a1 s9 o9 ho9) _ (0, 0, 0, 0, h) _ ha12)
  rcases hca12 with ⟨a12, rfl, H⟩ | ⟨r, rfl, H⟩
  · obtain rfl := Option.some.inj H
    exact F
  · obtain rfl := Option.some.inj H
    exact F
def L_X7_think : List Nat := [11, 12, 17, 18, 19, 20]
theorem fb_X7_think_28 {W : Nat → Bool} (hL : ∀ c ∈ L_X7_think, W c = true) (a1 : Int32) (a3 : Int32) (s : (Int32 × Int32 × Hp)) (out : (Int32 × Int32 × Hp) ⊕ (Int32 × Int32 × Hp)) (H : b_X7_think_28 a1 a3 s = some out) : FW W ((fun s : (Int32 × Int32 × Hp) => s.2.2) s) (Sum.elim (fun s : (Int32 × Int32 × Hp) => s.2.2) (fun s : (Int32 × Int32 × Hp) => s.2.2) out) := by
  unfold b_X7_think_28 at H
  have F := FW.refl W s.2.2
  rcases ite_e H with ⟨-, H⟩ | ⟨-, H⟩
  · obtain rfl := Option.some.inj H
    exact F
  · obtain ⟨r4, hr4, H⟩ := bind_some H
    have F := F.trans (fr_X7_callOf (sub_L hL (by decide)) a1 s.2.1 s.2.2 _ hr4)
    rcases ite_e H with ⟨-, H⟩ | ⟨-, H⟩
    · rcases ite_e H with ⟨-, H⟩ | ⟨-, H⟩
      · obtain rfl := Option.some.inj H
        exact F
      · obtain rfl := Option.some.inj H
        exact F
    · obtain rfl := Option.some.inj H
      exact F
theorem fr_X7_think {W : Nat → Bool} (hL : ∀ c ∈ L_X7_think, W c = true) (a1 : Int32) (a2 : Int32) (h : Hp) (out : (Int32 × Hp)) (H : f_X7_think a1 a2 h = some out) : FW W h out.2 := by
  unfold f_X7_think at H
  have F := FW.refl W h
  obtain ⟨r1, hr1, H⟩ := bind_some H
  have F := F.trans (fr_X5_become (sub_L hL (by decide)) 17 13 h (hL 18 (by decide)) (hL 19 (by decide)) (hL 20 (by decide)) (hL 17 (by decide)) _ hr1)
  obtain ⟨r2, hr2, H⟩ := bind_some H
  obtain ⟨a7, ha7, H⟩ := bind_some H
  have F := F.trans (iter_F (hs := (fun s : (Int32 × Int32 × Hp) => s.2.2)) (ha := (fun s : (Int32 × Int32 × Hp) => s.2.2)) (fun s9 o9 ho9 => fb_X7_think_28 hL a1 (mnI a2 r2) s9 o9 ho9) _ ((-2), 0, r1) _ ha7)
  obtain rfl := Option.some.inj H
  exact F
def L_X7_searchFewest : List Nat := [11, 12, 17, 18, 19, 20, 49]
theorem fj_X7_searchFewest_148 {W : Nat → Bool} (hL : ∀ c ∈ L_X7_searchFewest, W c = true) (c2 : Int32) (a3 : Int32) (a4 : Int32) (a5 : Int32) (t0 : Int32) (h : Hp) (out : (Int32 × Hp) ⊕ ((Int32 × Hp) ⊕ (Int32 × Hp))) (H : j_X7_searchFewest_148 c2 a3 a4 a5 t0 h = some out) : FW W h (Sum.elim (fun s : (Int32 × Hp) => s.2) (Sum.elim (fun s : (Int32 × Hp) => s.2) (fun r : (Int32 × Hp) => r.2)) out) := by
  unfold j_X7_searchFewest_148 at H
  have F := FW.refl W h
  obtain ⟨h12, eh12, H⟩ := bind_some H
  have F := F.wri (fun q9 => (hL 18 (by decide))) eh12
  obtain ⟨r13, hr13, H⟩ := bind_some H
  have F := F.trans (fr_X5_setForgiven (sub_L hL (by decide)) 17 a3 0 h12 (hL 17 (by decide)) _ hr13)
  rcases ite_e H with ⟨-, H⟩ | ⟨-, H⟩
  · obtain rfl := Option.some.inj H
    exact F
  · obtain ⟨h15, eh15, H⟩ := bind_some H
    have F := F.wri (fun q9 => (hL 49 (by decide))) eh15
    obtain rfl := Option.some.inj H
    exact F
theorem fj_X7_searchFewest_147 {W : Nat → Bool} (hL : ∀ c ∈ L_X7_searchFewest, W c = true) (c2 : Int32) (a3 : Int32) (a4 : Int32) (a5 : Int32) (h : Hp) (out : (Int32 × Hp) ⊕ ((Int32 × Hp) ⊕ (Int32 × Hp))) (H : j_X7_searchFewest_147 c2 a3 a4 a5 h = some out) : FW W h (Sum.elim (fun s : (Int32 × Hp) => s.2) (Sum.elim (fun s : (Int32 × Hp) => s.2) (fun r : (Int32 × Hp) => r.2)) out) := by
  unfold j_X7_searchFewest_147 at H
  have F := FW.refl W h
  exact F.trans (fj_X7_searchFewest_148 hL c2 a3 a4 a5 0 h _ H)
theorem fb_X7_searchFewest_51 {W : Nat → Bool} (hL : ∀ c ∈ L_X7_searchFewest, W c = true) (s : (Int32 × Hp)) (out : (Int32 × Hp) ⊕ ((Int32 × Hp) ⊕ (Int32 × Hp))) (H : b_X7_searchFewest_51 s = some out) : FW W ((fun s : (Int32 × Hp) => s.2) s) (Sum.elim (fun s : (Int32 × Hp) => s.2) (Sum.elim (fun s : (Int32 × Hp) => s.2) (fun r : (Int32 × Hp) => r.2)) out) := by
  unfold b_X7_searchFewest_51 at H
  have F := FW.refl W s.2
  rcases ite_e H with ⟨-, H⟩ | ⟨-, H⟩
  · obtain rfl := Option.some.inj H
    exact F
  · obtain ⟨v7, -, H⟩ := bind_some H
    obtain ⟨r8, hr8, H⟩ := bind_some H
    have F := F.trans (fr_X7_forgive (sub_L hL (by decide)) 17 (s.1 / 12) (s.1 % 12) s.2 (hL 17 (by decide)) (hL 18 (by decide)) _ hr8)
    rcases ite_e H with ⟨-, H⟩ | ⟨-, H⟩
    · obtain rfl := Option.some.inj H
      exact F
    · obtain ⟨r10, hr10, H⟩ := bind_some H
      rcases ite_e H with ⟨-, H⟩ | ⟨-, H⟩
      · exact F.trans (fj_X7_searchFewest_147 hL s.1 (s.1 / 12) (s.1 % 12) v7 r8.2 _ H)
      · obtain ⟨r16, hr16, H⟩ := bind_some H
        rcases ite_e H with ⟨-, H⟩ | ⟨-, H⟩
        · obtain ⟨r18, hr18, H⟩ := bind_some H
          have F := F.trans (fr_X7_mendsIn (sub_L hL (by decide)) r10 1 r8.2 _ hr18)
          rcases ite_e H with ⟨-, H⟩ | ⟨-, H⟩
          · exact F.trans (fj_X7_searchFewest_147 hL s.1 (s.1 / 12) (s.1 % 12) v7 r18.2 _ H)
          · exact F.trans (fj_X7_searchFewest_148 hL s.1 (s.1 / 12) (s.1 % 12) v7 1 r18.2 _ H)
        · exact F.trans (fj_X7_searchFewest_147 hL s.1 (s.1 / 12) (s.1 % 12) v7 r8.2 _ H)
theorem fj_X7_searchFewest_49 {W : Nat → Bool} (hL : ∀ c ∈ L_X7_searchFewest, W c = true) (h : Hp) (out : (Int32 × Hp)) (H : j_X7_searchFewest_49 h = some out) : FW W h out.2 := by
  unfold j_X7_searchFewest_49 at H
  have F := FW.refl W h
  obtain ⟨a20o, ha20, hca20⟩ := it_R H
  have F := F.trans (iter_F (hs := (fun s : (Int32 × Hp) => s.2)) (ha := (Sum.elim (fun s : (Int32 × Hp) => s.2) (fun r : (Int32 × Hp) => r.2))) (fun s9 o9 ho9 => fb_X7_searchFewest_51 hL s9 o9 ho9) _ (0, h) _ ha20)
  rcases hca20 with ⟨a20, rfl, H⟩ | ⟨r, rfl, H⟩
  · obtain rfl := Option.some.inj H
    exact F
  · obtain rfl := Option.some.inj H
    exact F
theorem fr_X7_searchFewest {W : Nat → Bool} (hL : ∀ c ∈ L_X7_searchFewest, W c = true) (h : Hp) (out : (Int32 × Hp)) (H : f_X7_searchFewest h = some out) : FW W h out.2 := by
  unfold f_X7_searchFewest at H
  have F := FW.refl W h
  obtain ⟨r1, hr1, H⟩ := bind_some H
  have F := F.trans (fr_X5_become (sub_L hL (by decide)) 17 13 h (hL 18 (by decide)) (hL 19 (by decide)) (hL 20 (by decide)) (hL 17 (by decide)) _ hr1)
  obtain ⟨r2, hr2, H⟩ := bind_some H
  rcases ite_e H with ⟨-, H⟩ | ⟨-, H⟩
  · obtain rfl := Option.some.inj H
    exact F
  · obtain ⟨r4, hr4, H⟩ := bind_some H
    rcases ite_e H with ⟨-, H⟩ | ⟨-, H⟩
    · obtain ⟨r21, hr21, H⟩ := bind_some H
      have F := F.trans (fr_X7_mendsIn (sub_L hL (by decide)) r2 0 r1 _ hr21)
      rcases ite_e H with ⟨-, H⟩ | ⟨-, H⟩
      · exact F.trans (fj_X7_searchFewest_49 hL r21.2 _ H)
      · obtain rfl := Option.some.inj H
        exact F
    · exact F.trans (fj_X7_searchFewest_49 hL r1 _ H)
def L_X7_firstUnlike : List Nat := [11, 12, 17, 18, 19, 20]
theorem fj_X7_firstUnlike_63 {W : Nat → Bool} (hL : ∀ c ∈ L_X7_firstUnlike, W c = true) (a1 : Int32) (a2 : Int32) (a3 : Int32) (a4 : Int32) (a5 : Int32) (c6 : Int32) (h : Hp) (out : (Int32 × Hp) ⊕ ((Int32 × Hp) ⊕ (Int32 × Hp))) (H : j_X7_firstUnlike_63 a1 a2 a3 a4 a5 c6 h = some out) : FW W h (Sum.elim (fun s : (Int32 × Hp) => s.2) (Sum.elim (fun s : (Int32 × Hp) => s.2) (fun r : (Int32 × Hp) => r.2)) out) := by
  unfold j_X7_firstUnlike_63 at H
  have F := FW.refl W h
  obtain ⟨r7, hr7, H⟩ := bind_some H
  obtain ⟨v8, -, H⟩ := bind_some H
  rcases ite_e H with ⟨-, H⟩ | ⟨-, H⟩
  · obtain rfl := Option.some.inj H
    exact F
  · obtain rfl := Option.some.inj H
    exact F
theorem fb_X7_firstUnlike_31 {W : Nat → Bool} (hL : ∀ c ∈ L_X7_firstUnlike, W c = true) (a1 : Int32) (a2 : Int32) (a3 : Int32) (a4 : Int32) (a5 : Int32) (s : (Int32 × Hp)) (out : (Int32 × Hp) ⊕ ((Int32 × Hp) ⊕ (Int32 × Hp))) (H : b_X7_firstUnlike_31 a1 a2 a3 a4 a5 s = some out) : FW W ((fun s : (Int32 × Hp) => s.2) s) (Sum.elim (fun s : (Int32 × Hp) => s.2) (Sum.elim (fun s : (Int32 × Hp) => s.2) (fun r : (Int32 × Hp) => r.2)) out) := by
  unfold b_X7_firstUnlike_31 at H
  have F := FW.refl W s.2
  rcases ite_e H with ⟨-, H⟩ | ⟨-, H⟩
  · obtain rfl := Option.some.inj H
    exact F
  · rcases ite_e H with ⟨-, H⟩ | ⟨-, H⟩
    · rcases ite_e H with ⟨-, H⟩ | ⟨-, H⟩
      · exact F.trans (fj_X7_firstUnlike_63 hL a1 a2 a3 a4 a5 s.1 s.2 _ H)
      · obtain ⟨r10, hr10, H⟩ := bind_some H
        have F := F.trans (fr_X7_callOf (sub_L hL (by decide)) a1 (s.1 - 1) s.2 _ hr10)
        exact F.trans (fj_X7_firstUnlike_63 hL a1 a2 a3 a4 a5 s.1 r10.2 _ H)
    · obtain rfl := Option.some.inj H
      exact F
theorem fr_X7_firstUnlike {W : Nat → Bool} (hL : ∀ c ∈ L_X7_firstUnlike, W c = true) (a1 : Int32) (a2 : Int32) (a3 : Int32) (h : Hp) (out : (Int32 × Hp)) (H : f_X7_firstUnlike a1 a2 a3 h = some out) : FW W h out.2 := by
  unfold f_X7_firstUnlike at H
  have F := FW.refl W h
  obtain ⟨r1, hr1, H⟩ := bind_some H
  have F := F.trans (fr_X5_become (sub_L hL (by decide)) 17 13 h (hL 18 (by decide)) (hL 19 (by decide)) (hL 20 (by decide)) (hL 17 (by decide)) _ hr1)
  obtain ⟨r2, hr2, H⟩ := bind_some H
  obtain ⟨r3, hr3, H⟩ := bind_some H
  obtain ⟨a11o, ha11, hca11⟩ := it_R H
  have F := F.trans (iter_F (hs := (fun s : (Int32 × Hp) => s.2)) (ha := (Sum.elim (fun s : (Int32 × Hp) => s.2) (fun r : (Int32 × Hp) => r.2))) (fun s9 o9 ho9 => fb_X7_firstUnlike_31 hL a1 a2 a3 r2 r3 s9 o9 ho9) _ (0, r1) _ ha11)
  rcases hca11 with ⟨a11, rfl, H⟩ | ⟨r, rfl, H⟩
  · obtain rfl := Option.some.inj H
    exact F
  · obtain rfl := Option.some.inj H
    exact F
def L_X7_playAlone : List Nat := [11, 12, 17, 18, 49]
theorem fb_X7_playAlone_30 {W : Nat → Bool} (hL : ∀ c ∈ L_X7_playAlone, W c = true) (a1 : Int32) (a2 : Int32) (s : (Int32 × Hp)) (out : (Int32 × Hp) ⊕ (Int32 × Hp)) (H : b_X7_playAlone_30 a1 a2 s = some out) : FW W ((fun s : (Int32 × Hp) => s.2) s) (Sum.elim (fun s : (Int32 × Hp) => s.2) (fun s : (Int32 × Hp) => s.2) out) := by
  unfold b_X7_playAlone_30 at H
  have F := FW.refl W s.2
  rcases ite_e H with ⟨-, H⟩ | ⟨-, H⟩
  · obtain rfl := Option.some.inj H
    exact F
  · obtain ⟨v6, -, H⟩ := bind_some H
    rcases ite_e H with ⟨-, H⟩ | ⟨-, H⟩
    · obtain ⟨r8, hr8, H⟩ := bind_some H
      have F := F.trans (fr_X7_numberBehind (sub_L hL (by decide)) a1 s.1 a2 s.2 _ hr8)
      obtain ⟨v9, -, H⟩ := bind_some H
      rcases ite_e H with ⟨-, H⟩ | ⟨-, H⟩
      · obtain rfl := Option.some.inj H
        exact F
      · obtain ⟨h11, eh11, H⟩ := bind_some H
        have F := F.wri (fun q9 => (hL 49 (by decide))) eh11
        obtain ⟨h12, eh12, H⟩ := bind_some H
        have F := F.wri (fun q9 => (hL 49 (by decide))) eh12
        obtain rfl := Option.some.inj H
        exact F
    · obtain rfl := Option.some.inj H
      exact F
theorem fr_X7_playAlone {W : Nat → Bool} (hL : ∀ c ∈ L_X7_playAlone, W c = true) (a1 : Int32) (a2 : Int32) (h : Hp) (out : Hp) (H : f_X7_playAlone a1 a2 h = some out) : FW W h out := by
  unfold f_X7_playAlone at H
  have F := FW.refl W h
  obtain ⟨r1, hr1, H⟩ := bind_some H
  have F := F.trans (fr_X7_numberBehind (sub_L hL (by decide)) a1 12 a2 h _ hr1)
  obtain ⟨h2, eh2, H⟩ := bind_some H
  have F := F.wri (fun q9 => (hL 49 (by decide))) eh2
  obtain ⟨h3, eh3, H⟩ := bind_some H
  have F := F.wri (fun q9 => (hL 49 (by decide))) eh3
  rcases ite_e H with ⟨-, H⟩ | ⟨-, H⟩
  · obtain ⟨a13, ha13, H⟩ := bind_some H
    have F := F.trans (iter_F (hs := (fun s : (Int32 × Hp) => s.2)) (ha := (fun s : (Int32 × Hp) => s.2)) (fun s9 o9 ho9 => fb_X7_playAlone_30 hL a1 a2 s9 o9 ho9) _ (0, h3) _ ha13)
    obtain rfl := Option.some.inj H
    exact F
  · obtain rfl := Option.some.inj H
    exact F
def L_X7_drawn : List Nat := [11, 12, 17, 18, 19, 20]
theorem fb_X7_drawn_87 {W : Nat → Bool} (hL : ∀ c ∈ L_X7_drawn, W c = true) (a3 : Int32) (a4 : Int32) (a5 : Int32) (a7 : Int32) (a8 : Int32) (s : (Int32 × Int32 × Hp)) (out : (Int32 × Int32 × Hp) ⊕ (Int32 × Int32 × Hp)) (H : b_X7_drawn_87 a3 a4 a5 a7 a8 s = some out) : FW W ((fun s : (Int32 × Int32 × Hp) => s.2.2) s) (Sum.elim (fun s : (Int32 × Int32 × Hp) => s.2.2) (fun s : (Int32 × Int32 × Hp) => s.2.2) out) := by
  unfold b_X7_drawn_87 at H
  have F := FW.refl W s.2.2
  rcases ite_e H with ⟨-, H⟩ | ⟨-, H⟩
  · obtain rfl := Option.some.inj H
    exact F
  · obtain ⟨r11, hr11, H⟩ := bind_some H
    have F := F.trans (fr_X7_liveDay (sub_L hL (by decide)) ((s.1 * 1103515245) + 12345) s.2.2 _ hr11)
    obtain rfl := Option.some.inj H
    exact F
theorem fb_X7_drawn_66 {W : Nat → Bool} (hL : ∀ c ∈ L_X7_drawn, W c = true) (a3 : Int32) (a4 : Int32) (a5 : Int32) (s : (Int32 × Int32 × Int32 × Hp)) (out : (Int32 × Int32 × Int32 × Hp) ⊕ (Int32 × Int32 × Int32 × Hp)) (H : b_X7_drawn_66 a3 a4 a5 s = some out) : FW W ((fun s : (Int32 × Int32 × Int32 × Hp) => s.2.2.2) s) (Sum.elim (fun s : (Int32 × Int32 × Int32 × Hp) => s.2.2.2) (fun s : (Int32 × Int32 × Int32 × Hp) => s.2.2.2) out) := by
  unfold b_X7_drawn_66 at H
  have F := FW.refl W s.2.2.2
  rcases ite_e H with ⟨-, H⟩ | ⟨-, H⟩
  · obtain rfl := Option.some.inj H
    exact F
  · obtain ⟨r9, hr9, H⟩ := bind_some H
    have F := F.trans (fr_X5_become (sub_L hL (by decide)) 17 13 s.2.2.2 (hL 18 (by decide)) (hL 19 (by decide)) (hL 20 (by decide)) (hL 17 (by decide)) _ hr9)
    obtain ⟨a12, ha12, H⟩ := bind_some H
    have F := F.trans (iter_F (hs := (fun s : (Int32 × Int32 × Hp) => s.2.2)) (ha := (fun s : (Int32 × Int32 × Hp) => s.2.2)) (fun s9 o9 ho9 => fb_X7_drawn_87 hL a3 a4 a5 s.2.1 s.2.2.1 s9 o9 ho9) _ (s.1, 0, r9) _ ha12)
    rcases ite_e H with ⟨-, H⟩ | ⟨-, H⟩
    · obtain ⟨r15, hr15, H⟩ := bind_some H
      obtain rfl := Option.some.inj H
      exact F
    · obtain ⟨v14, -, H⟩ := bind_some H
      obtain rfl := Option.some.inj H
      exact F
theorem fr_X7_drawn {W : Nat → Bool} (hL : ∀ c ∈ L_X7_drawn, W c = true) (a1 : Int32) (a2 : Int32) (a3 : Int32) (h : Hp) (out : (Int32 × Hp)) (H : f_X7_drawn a1 a2 a3 h = some out) : FW W h out.2 := by
  unfold f_X7_drawn at H
  have F := FW.refl W h
  rcases ite_e H with ⟨-, H⟩ | ⟨-, H⟩
  · obtain rfl := Option.some.inj H
    exact F
  · rcases ite_e H with ⟨-, H⟩ | ⟨-, H⟩
    · obtain rfl := Option.some.inj H
      exact F
    · rcases ite_e H with ⟨-, H⟩ | ⟨-, H⟩
      · rcases ite_e H with ⟨-, H⟩ | ⟨-, H⟩
        · obtain rfl := Option.some.inj H
          exact F
        · rcases ite_e H with ⟨-, H⟩ | ⟨-, H⟩
          · obtain rfl := Option.some.inj H
            exact F
          · rcases ite_e H with ⟨-, H⟩ | ⟨-, H⟩
            · obtain rfl := Option.some.inj H
              exact F
            · rcases ite_e H with ⟨-, H⟩ | ⟨-, H⟩
              · obtain ⟨a16, ha16, H⟩ := bind_some H
                have F := F.trans (iter_F (hs := (fun s : (Int32 × Int32 × Int32 × Hp) => s.2.2.2)) (ha := (fun s : (Int32 × Int32 × Int32 × Hp) => s.2.2.2)) (fun s9 o9 ho9 => fb_X7_drawn_66 hL a3 (a2 / 100) (a2 % 100) s9 o9 ho9) _ (a1, 0, 0, h) _ ha16)
                obtain rfl := Option.some.inj H
                exact F
              · obtain rfl := Option.some.inj H
                exact F
      · obtain rfl := Option.some.inj H
        exact F
def L_X8_goes : List Nat := [54, 61, 71, 72]
theorem fb_X8_goes_17 {W : Nat → Bool} (hL : ∀ c ∈ L_X8_goes, W c = true) (a1 : Int32) (a4 : Int32) (s : (Int32 × Int32 × Hp)) (out : (Int32 × Int32 × Hp) ⊕ (Int32 × Int32 × Hp)) (H : b_X8_goes_17 a1 a4 s = some out) : FW W ((fun s : (Int32 × Int32 × Hp) => s.2.2) s) (Sum.elim (fun s : (Int32 × Int32 × Hp) => s.2.2) (fun s : (Int32 × Int32 × Hp) => s.2.2) out) := by
  unfold b_X8_goes_17 at H
  have F := FW.refl W s.2.2
  rcases ite_e H with ⟨-, H⟩ | ⟨-, H⟩
  · obtain rfl := Option.some.inj H
    exact F
  · obtain ⟨r3, hr3, H⟩ := bind_some H
    obtain ⟨r4, hr4, H⟩ := bind_some H
    obtain ⟨r5, hr5, H⟩ := bind_some H
    have F := F.trans (fr_X8_calls (sub_L hL (by decide)) (r3 / 12) (r4 % 12) s.2.2 _ hr5)
    rcases ite_e H with ⟨-, H⟩ | ⟨-, H⟩
    · rcases ite_e H with ⟨-, H⟩ | ⟨-, H⟩
      · obtain rfl := Option.some.inj H
        exact F
      · obtain rfl := Option.some.inj H
        exact F
    · obtain rfl := Option.some.inj H
      exact F
theorem fr_X8_goes {W : Nat → Bool} (hL : ∀ c ∈ L_X8_goes, W c = true) (a1 : Int32) (a2 : Int32) (h : Hp) (out : (Int32 × Hp)) (H : f_X8_goes a1 a2 h = some out) : FW W h out.2 := by
  unfold f_X8_goes at H
  have F := FW.refl W h
  obtain ⟨r1, hr1, H⟩ := bind_some H
  obtain ⟨a8, ha8, H⟩ := bind_some H
  have F := F.trans (iter_F (hs := (fun s : (Int32 × Int32 × Hp) => s.2.2)) (ha := (fun s : (Int32 × Int32 × Hp) => s.2.2)) (fun s9 o9 ho9 => fb_X8_goes_17 hL a1 (mnI a2 r1) s9 o9 ho9) _ ((-2), 0, h) _ ha8)
  obtain rfl := Option.some.inj H
  exact F
def L_X8_all : List Nat := [53, 54, 60, 61, 71, 72, 82]
theorem fb_X8_all_19 {W : Nat → Bool} (hL : ∀ c ∈ L_X8_all, W c = true) (a1 : Int32) (s : (Int32 × Hp)) (out : (Int32 × Hp) ⊕ (Int32 × Hp)) (H : b_X8_all_19 a1 s = some out) : FW W ((fun s : (Int32 × Hp) => s.2) s) (Sum.elim (fun s : (Int32 × Hp) => s.2) (fun s : (Int32 × Hp) => s.2) out) := by
  unfold b_X8_all_19 at H
  have F := FW.refl W s.2
  rcases ite_e H with ⟨-, H⟩ | ⟨-, H⟩
  · obtain rfl := Option.some.inj H
    exact F
  · obtain ⟨r5, hr5, H⟩ := bind_some H
    have F := F.trans (fr_X8_calls (sub_L hL (by decide)) s.1 a1 s.2 _ hr5)
    obtain rfl := Option.some.inj H
    exact F
theorem fr_X8_all {W : Nat → Bool} (hL : ∀ c ∈ L_X8_all, W c = true) (a1 : Int32) (h : Hp) (out : (Int32 × Hp)) (H : f_X8_all a1 h = some out) : FW W h out.2 := by
  unfold f_X8_all at H
  have F := FW.refl W h
  obtain ⟨r1, hr1, H⟩ := bind_some H
  rcases ite_e H with ⟨-, H⟩ | ⟨-, H⟩
  · obtain rfl := Option.some.inj H
    exact F
  · obtain ⟨r3, hr3, H⟩ := bind_some H
    have F := F.trans (fr_X8_keeps (sub_L hL (by decide)) 82 h (hL 82 (by decide)) _ hr3)
    obtain ⟨a6, ha6, H⟩ := bind_some H
    have F := F.trans (iter_F (hs := (fun s : (Int32 × Hp) => s.2)) (ha := (fun s : (Int32 × Hp) => s.2)) (fun s9 o9 ho9 => fb_X8_all_19 hL a1 s9 o9 ho9) _ (0, r3) _ ha6)
    obtain ⟨v7, -, H⟩ := bind_some H
    obtain ⟨r8, hr8, H⟩ := bind_some H
    have F := F.trans (fr_X8_laysBack (sub_L hL (by decide)) 82 a6.2 _ hr8)
    obtain rfl := Option.some.inj H
    exact F
def L_X8_evening : List Nat := [71, 72]
theorem fb_X8_evening_18 {W : Nat → Bool} (hL : ∀ c ∈ L_X8_evening, W c = true) (a1 : Int32) (s : (Int32 × Int32 × Int32 × Hp)) (out : (Int32 × Int32 × Int32 × Hp) ⊕ (Int32 × Int32 × Int32 × Hp)) (H : b_X8_evening_18 a1 s = some out) : FW W ((fun s : (Int32 × Int32 × Int32 × Hp) => s.2.2.2) s) (Sum.elim (fun s : (Int32 × Int32 × Int32 × Hp) => s.2.2.2) (fun s : (Int32 × Int32 × Int32 × Hp) => s.2.2.2) out) := by
  unfold b_X8_evening_18 at H
  have F := FW.refl W s.2.2.2
  rcases ite_e H with ⟨-, H⟩ | ⟨-, H⟩
  · obtain rfl := Option.some.inj H
    exact F
  · obtain ⟨r4, hr4, H⟩ := bind_some H
    have F := F.trans (fr_X8_atOnce (sub_L hL (by decide)) s.2.2.1 s.2.2.2 _ hr4)
    rcases ite_e H with ⟨-, H⟩ | ⟨-, H⟩
    · obtain rfl := Option.some.inj H
      exact F
    · rcases ite_e H with ⟨-, H⟩ | ⟨-, H⟩
      · obtain ⟨r7, hr7, H⟩ := bind_some H
        obtain ⟨r8, hr8, H⟩ := bind_some H
        rcases ite_e H with ⟨-, H⟩ | ⟨-, H⟩
        · obtain rfl := Option.some.inj H
          exact F
        · obtain rfl := Option.some.inj H
          exact F
      · obtain rfl := Option.some.inj H
        exact F
theorem fr_X8_evening {W : Nat → Bool} (hL : ∀ c ∈ L_X8_evening, W c = true) (a1 : Int32) (h : Hp) (out : (Int32 × Hp)) (H : f_X8_evening a1 h = some out) : FW W h out.2 := by
  unfold f_X8_evening at H
  have F := FW.refl W h
  obtain ⟨r1, hr1, H⟩ := bind_some H
  rcases ite_e H with ⟨-, H⟩ | ⟨-, H⟩
  · obtain rfl := Option.some.inj H
    exact F
  · obtain ⟨a10, ha10, H⟩ := bind_some H
    have F := F.trans (iter_F (hs := (fun s : (Int32 × Int32 × Int32 × Hp) => s.2.2.2)) (ha := (fun s : (Int32 × Int32 × Int32 × Hp) => s.2.2.2)) (fun s9 o9 ho9 => fb_X8_evening_18 hL a1 s9 o9 ho9) _ (0, 0, 1, h) _ ha10)
    rcases ite_e H with ⟨-, H⟩ | ⟨-, H⟩
    · obtain rfl := Option.some.inj H
      exact F
    · obtain rfl := Option.some.inj H
      exact F
def L_X8_unlike : List Nat := [53, 54, 60, 61, 71, 72, 82]
theorem fj_X8_unlike_93 {W : Nat → Bool} (hL : ∀ c ∈ L_X8_unlike, W c = true) (a2 : Int32) (a3 : Int32) (a4 : Int32) (a5 : Int32) (c6 : Int32) (c7 : Int32) (h : Hp) (out : (Int32 × Int32 × Hp) ⊕ (Int32 × Int32 × Hp)) (H : j_X8_unlike_93 a2 a3 a4 a5 c6 c7 h = some out) : FW W h (Sum.elim (fun s : (Int32 × Int32 × Hp) => s.2.2) (fun s : (Int32 × Int32 × Hp) => s.2.2) out) := by
  unfold j_X8_unlike_93 at H
  have F := FW.refl W h
  rcases ite_e H with ⟨-, H⟩ | ⟨-, H⟩
  · obtain rfl := Option.some.inj H
    exact F
  · obtain ⟨v8, -, H⟩ := bind_some H
    obtain ⟨r9, hr9, H⟩ := bind_some H
    rcases ite_e H with ⟨-, H⟩ | ⟨-, H⟩
    · obtain rfl := Option.some.inj H
      exact F
    · obtain rfl := Option.some.inj H
      exact F
theorem fb_X8_unlike_33 {W : Nat → Bool} (hL : ∀ c ∈ L_X8_unlike, W c = true) (a2 : Int32) (a3 : Int32) (a4 : Int32) (a5 : Int32) (s : (Int32 × Int32 × Hp)) (out : (Int32 × Int32 × Hp) ⊕ (Int32 × Int32 × Hp)) (H : b_X8_unlike_33 a2 a3 a4 a5 s = some out) : FW W ((fun s : (Int32 × Int32 × Hp) => s.2.2) s) (Sum.elim (fun s : (Int32 × Int32 × Hp) => s.2.2) (fun s : (Int32 × Int32 × Hp) => s.2.2) out) := by
  unfold b_X8_unlike_33 at H
  have F := FW.refl W s.2.2
  obtain ⟨v3, -, H⟩ := bind_some H
  rcases ite_e H with ⟨-, H⟩ | ⟨-, H⟩
  · obtain rfl := Option.some.inj H
    exact F
  · rcases ite_e H with ⟨-, H⟩ | ⟨-, H⟩
    · rcases ite_e H with ⟨-, H⟩ | ⟨-, H⟩
      · exact F.trans (fj_X8_unlike_93 hL a2 a3 a4 a5 s.1 s.2.1 s.2.2 _ H)
      · rcases ite_e H with ⟨-, H⟩ | ⟨-, H⟩
        · exact F.trans (fj_X8_unlike_93 hL a2 a3 a4 a5 s.1 s.2.1 s.2.2 _ H)
        · obtain ⟨r12, hr12, H⟩ := bind_some H
          obtain ⟨r13, hr13, H⟩ := bind_some H
          obtain ⟨r14, hr14, H⟩ := bind_some H
          have F := F.trans (fr_X8_calls (sub_L hL (by decide)) (r12 / 12) (r13 % 12) s.2.2 _ hr14)
          exact F.trans (fj_X8_unlike_93 hL a2 a3 a4 a5 s.1 s.2.1 r14.2 _ H)
    · obtain rfl := Option.some.inj H
      exact F
theorem fr_X8_unlike {W : Nat → Bool} (hL : ∀ c ∈ L_X8_unlike, W c = true) (a1 : Int32) (a2 : Int32) (h : Hp) (out : (Int32 × Hp)) (H : f_X8_unlike a1 a2 h = some out) : FW W h out.2 := by
  unfold f_X8_unlike at H
  have F := FW.refl W h
  obtain ⟨r1, hr1, H⟩ := bind_some H
  have F := F.trans (fr_X8_keeps (sub_L hL (by decide)) 82 h (hL 82 (by decide)) _ hr1)
  obtain ⟨r2, hr2, H⟩ := bind_some H
  obtain ⟨a15, ha15, H⟩ := bind_some H
  have F := F.trans (iter_F (hs := (fun s : (Int32 × Int32 × Hp) => s.2.2)) (ha := (fun s : (Int32 × Int32 × Hp) => s.2.2)) (fun s9 o9 ho9 => fb_X8_unlike_33 hL a2 (a1 / 10) (a1 % 10) r2 s9 o9 ho9) _ ((-2), 0, r1) _ ha15)
  obtain ⟨r16, hr16, H⟩ := bind_some H
  have F := F.trans (fr_X8_laysBack (sub_L hL (by decide)) 82 a15.2.2 _ hr16)
  obtain rfl := Option.some.inj H
  exact F
def L_X8_drawn : List Nat := [53, 54, 60, 61, 71, 72, 83]
theorem fb_X8_drawn_73 {W : Nat → Bool} (hL : ∀ c ∈ L_X8_drawn, W c = true) (a2 : Int32) (a3 : Int32) (a5 : Int32) (a6 : Int32) (s : (Int32 × Int32 × Hp)) (out : (Int32 × Int32 × Hp) ⊕ (Int32 × Int32 × Hp)) (H : b_X8_drawn_73 a2 a3 a5 a6 s = some out) : FW W ((fun s : (Int32 × Int32 × Hp) => s.2.2) s) (Sum.elim (fun s : (Int32 × Int32 × Hp) => s.2.2) (fun s : (Int32 × Int32 × Hp) => s.2.2) out) := by
  unfold b_X8_drawn_73 at H
  have F := FW.refl W s.2.2
  rcases ite_e H with ⟨-, H⟩ | ⟨-, H⟩
  · obtain rfl := Option.some.inj H
    exact F
  · rcases ite_e H with ⟨-, H⟩ | ⟨-, H⟩
    · obtain ⟨r11, hr11, H⟩ := bind_some H
      have F := F.trans (fr_X8_passes (sub_L hL (by decide)) s.2.2 _ hr11)
      obtain rfl := Option.some.inj H
      exact F
    · obtain ⟨v12, -, H⟩ := bind_some H
      obtain ⟨v13, -, H⟩ := bind_some H
      rcases ite_e H with ⟨-, H⟩ | ⟨-, H⟩
      · obtain ⟨h17, eh17, H⟩ := bind_some H
        have F := F.wri (fun q9 => (hL 61 (by decide))) eh17
        obtain ⟨h18, eh18, H⟩ := bind_some H
        have F := F.wri (fun q9 => (hL 60 (by decide))) eh18
        obtain ⟨r19, hr19, H⟩ := bind_some H
        have F := F.trans (fr_X8_passes (sub_L hL (by decide)) h18 _ hr19)
        obtain rfl := Option.some.inj H
        exact F
      · obtain ⟨r15, hr15, H⟩ := bind_some H
        have F := F.trans (fr_X8_calls (sub_L hL (by decide)) v12 ((ushr ((s.1 * 1103515245) + 12345) 16) % 12) s.2.2 _ hr15)
        obtain ⟨r16, hr16, H⟩ := bind_some H
        have F := F.trans (fr_X8_passes (sub_L hL (by decide)) r15.2 _ hr16)
        obtain rfl := Option.some.inj H
        exact F
theorem fb_X8_drawn_61 {W : Nat → Bool} (hL : ∀ c ∈ L_X8_drawn, W c = true) (a2 : Int32) (a3 : Int32) (s : (Int32 × Int32 × Int32 × Hp)) (out : (Int32 × Int32 × Int32 × Hp) ⊕ (Int32 × Int32 × Int32 × Hp)) (H : b_X8_drawn_61 a2 a3 s = some out) : FW W ((fun s : (Int32 × Int32 × Int32 × Hp) => s.2.2.2) s) (Sum.elim (fun s : (Int32 × Int32 × Int32 × Hp) => s.2.2.2) (fun s : (Int32 × Int32 × Int32 × Hp) => s.2.2.2) out) := by
  unfold b_X8_drawn_61 at H
  have F := FW.refl W s.2.2.2
  rcases ite_e H with ⟨-, H⟩ | ⟨-, H⟩
  · obtain rfl := Option.some.inj H
    exact F
  · obtain ⟨a20, ha20, H⟩ := bind_some H
    have F := F.trans (iter_F (hs := (fun s : (Int32 × Int32 × Hp) => s.2.2)) (ha := (fun s : (Int32 × Int32 × Hp) => s.2.2)) (fun s9 o9 ho9 => fb_X8_drawn_73 hL a2 a3 s.2.1 s.2.2.1 s9 o9 ho9) _ (s.1, 0, s.2.2.2) _ ha20)
    rcases ite_e H with ⟨-, H⟩ | ⟨-, H⟩
    · obtain ⟨r24, hr24, H⟩ := bind_some H
      obtain ⟨r25, hr25, H⟩ := bind_some H
      have F := F.trans (fr_X8_laysBack (sub_L hL (by decide)) 83 a20.2.2 _ hr25)
      obtain rfl := Option.some.inj H
      exact F
    · obtain ⟨v22, -, H⟩ := bind_some H
      obtain ⟨r23, hr23, H⟩ := bind_some H
      have F := F.trans (fr_X8_laysBack (sub_L hL (by decide)) 83 a20.2.2 _ hr23)
      obtain rfl := Option.some.inj H
      exact F
theorem fj_X8_drawn_44 {W : Nat → Bool} (hL : ∀ c ∈ L_X8_drawn, W c = true) (a1 : Int32) (a2 : Int32) (a3 : Int32) (h : Hp) (out : (Int32 × Hp)) (H : j_X8_drawn_44 a1 a2 a3 h = some out) : FW W h out.2 := by
  unfold j_X8_drawn_44 at H
  have F := FW.refl W h
  obtain ⟨r7, hr7, H⟩ := bind_some H
  have F := F.trans (fr_X8_keeps (sub_L hL (by decide)) 83 h (hL 83 (by decide)) _ hr7)
  obtain ⟨a26, ha26, H⟩ := bind_some H
  have F := F.trans (iter_F (hs := (fun s : (Int32 × Int32 × Int32 × Hp) => s.2.2.2)) (ha := (fun s : (Int32 × Int32 × Int32 × Hp) => s.2.2.2)) (fun s9 o9 ho9 => fb_X8_drawn_61 hL a2 a3 s9 o9 ho9) _ (a1, 0, 0, r7) _ ha26)
  obtain rfl := Option.some.inj H
  exact F
theorem fr_X8_drawn {W : Nat → Bool} (hL : ∀ c ∈ L_X8_drawn, W c = true) (a1 : Int32) (a2 : Int32) (a3 : Int32) (h : Hp) (out : (Int32 × Hp)) (H : f_X8_drawn a1 a2 a3 h = some out) : FW W h out.2 := by
  unfold f_X8_drawn at H
  have F := FW.refl W h
  rcases ite_e H with ⟨-, H⟩ | ⟨-, H⟩
  · obtain rfl := Option.some.inj H
    exact F
  · obtain ⟨r2, hr2, H⟩ := bind_some H
    rcases ite_e H with ⟨-, H⟩ | ⟨-, H⟩
    · obtain rfl := Option.some.inj H
      exact F
    · obtain ⟨r4, hr4, H⟩ := bind_some H
      rcases ite_e H with ⟨-, H⟩ | ⟨-, H⟩
      · obtain rfl := Option.some.inj H
        exact F
      · rcases ite_e H with ⟨-, H⟩ | ⟨-, H⟩
        · exact F.trans (fj_X8_drawn_44 hL a1 a2 a3 h _ H)
        · obtain ⟨r27, hr27, H⟩ := bind_some H
          rcases ite_e H with ⟨-, H⟩ | ⟨-, H⟩
          · obtain rfl := Option.some.inj H
            exact F
          · exact F.trans (fj_X8_drawn_44 hL a1 a2 a3 h _ H)
def L_X8_call : List Nat := [54, 61, 71, 72, 73]
theorem fj_X8_call_37 {W : Nat → Bool} (hL : ∀ c ∈ L_X8_call, W c = true) (a3 : Int32) (t0 : Int32) (h : Hp) (out : (Int32 × Hp)) (H : j_X8_call_37 a3 t0 h = some out) : FW W h out.2 := by
  unfold j_X8_call_37 at H
  have F := FW.refl W h
  obtain ⟨v7, -, H⟩ := bind_some H
  obtain ⟨h8, eh8, H⟩ := bind_some H
  have F := F.wri (fun q9 => (hL 73 (by decide))) eh8
  obtain ⟨v9, -, H⟩ := bind_some H
  obtain ⟨h10, eh10, H⟩ := bind_some H
  have F := F.wri (fun q9 => (hL 73 (by decide))) eh10
  obtain rfl := Option.some.inj H
  exact F
theorem fr_X8_call {W : Nat → Bool} (hL : ∀ c ∈ L_X8_call, W c = true) (a1 : Int32) (a2 : Int32) (h : Hp) (out : (Int32 × Hp)) (H : f_X8_call a1 a2 h = some out) : FW W h out.2 := by
  unfold f_X8_call at H
  have F := FW.refl W h
  obtain ⟨r1, hr1, H⟩ := bind_some H
  rcases ite_e H with ⟨-, H⟩ | ⟨-, H⟩
  · obtain rfl := Option.some.inj H
    exact F
  · obtain ⟨r3, hr3, H⟩ := bind_some H
    rcases ite_e H with ⟨-, H⟩ | ⟨-, H⟩
    · obtain rfl := Option.some.inj H
      exact F
    · obtain ⟨r5, hr5, H⟩ := bind_some H
      have F := F.trans (fr_X8_calls (sub_L hL (by decide)) a1 a2 h _ hr5)
      rcases ite_e H with ⟨-, H⟩ | ⟨-, H⟩
      · exact F.trans (fj_X8_call_37 hL r5.1 1 r5.2 _ H)
      · exact F.trans (fj_X8_call_37 hL r5.1 0 r5.2 _ H)
def L_X7_later : List Nat := [11, 12, 17, 18, 19, 20]
theorem fr_X7_later {W : Nat → Bool} (hL : ∀ c ∈ L_X7_later, W c = true) (a1 : Int32) (a2 : Int32) (a3 : Int32) (h : Hp) (out : (Int32 × Hp)) (H : f_X7_later a1 a2 a3 h = some out) : FW W h out.2 := by
  unfold f_X7_later at H
  have F := FW.refl W h
  obtain ⟨r1, hr1, H⟩ := bind_some H
  rcases ite_e H with ⟨-, H⟩ | ⟨-, H⟩
  · obtain rfl := Option.some.inj H
    exact F
  · obtain ⟨r3, hr3, H⟩ := bind_some H
    rcases ite_e H with ⟨-, H⟩ | ⟨-, H⟩
    · obtain rfl := Option.some.inj H
      exact F
    · obtain ⟨r5, hr5, H⟩ := bind_some H
      rcases ite_e H with ⟨-, H⟩ | ⟨-, H⟩
      · obtain rfl := Option.some.inj H
        exact F
      · obtain ⟨r7, hr7, H⟩ := bind_some H
        rcases ite_e H with ⟨-, H⟩ | ⟨-, H⟩
        · obtain ⟨r9, hr9, H⟩ := bind_some H
          have F := F.trans (fr_X7_think (sub_L hL (by decide)) a1 a2 h _ hr9)
          obtain ⟨v10, -, H⟩ := bind_some H
          obtain rfl := Option.some.inj H
          exact F
        · obtain rfl := Option.some.inj H
          exact F
def L_X7_street : List Nat := [11, 12, 17, 18, 19, 20]
theorem fr_X7_street {W : Nat → Bool} (hL : ∀ c ∈ L_X7_street, W c = true) (a1 : Int32) (a2 : Int32) (a3 : Int32) (h : Hp) (out : (Int32 × Hp)) (H : f_X7_street a1 a2 a3 h = some out) : FW W h out.2 := by
  unfold f_X7_street at H
  have F := FW.refl W h
  obtain ⟨r1, hr1, H⟩ := bind_some H
  rcases ite_e H with ⟨-, H⟩ | ⟨-, H⟩
  · obtain rfl := Option.some.inj H
    exact F
  · obtain ⟨r3, hr3, H⟩ := bind_some H
    rcases ite_e H with ⟨-, H⟩ | ⟨-, H⟩
    · obtain rfl := Option.some.inj H
      exact F
    · rcases ite_e H with ⟨-, H⟩ | ⟨-, H⟩
      · obtain rfl := Option.some.inj H
        exact F
      · rcases ite_e H with ⟨-, H⟩ | ⟨-, H⟩
        · obtain ⟨r7, hr7, H⟩ := bind_some H
          rcases ite_e H with ⟨-, H⟩ | ⟨-, H⟩
          · obtain ⟨r9, hr9, H⟩ := bind_some H
            have F := F.trans (fr_X7_think (sub_L hL (by decide)) a1 a2 h _ hr9)
            rcases ite_e H with ⟨-, H⟩ | ⟨-, H⟩
            · obtain rfl := Option.some.inj H
              exact F
            · rcases ite_e H with ⟨-, H⟩ | ⟨-, H⟩
              · obtain ⟨r12, hr12, H⟩ := bind_some H
                obtain rfl := Option.some.inj H
                exact F
              · rcases ite_e H with ⟨-, H⟩ | ⟨-, H⟩
                · obtain rfl := Option.some.inj H
                  exact F
                · obtain ⟨r14, hr14, H⟩ := bind_some H
                  obtain rfl := Option.some.inj H
                  exact F
          · obtain rfl := Option.some.inj H
            exact F
        · obtain rfl := Option.some.inj H
          exact F
def L_X7_fewest : List Nat := [11, 12, 17, 18, 19, 20, 49]
theorem fr_X7_fewest {W : Nat → Bool} (hL : ∀ c ∈ L_X7_fewest, W c = true) (a1 : Int32) (h : Hp) (out : (Int32 × Hp)) (H : f_X7_fewest a1 h = some out) : FW W h out.2 := by
  unfold f_X7_fewest at H
  have F := FW.refl W h
  rcases ite_e H with ⟨-, H⟩ | ⟨-, H⟩
  · obtain ⟨r2, hr2, H⟩ := bind_some H
    have F := F.trans (fr_X7_searchFewest (sub_L hL (by decide)) h _ hr2)
    rcases ite_e H with ⟨-, H⟩ | ⟨-, H⟩
    · obtain rfl := Option.some.inj H
      exact F
    · rcases ite_e H with ⟨-, H⟩ | ⟨-, H⟩
      · obtain rfl := Option.some.inj H
        exact F
      · rcases ite_e H with ⟨-, H⟩ | ⟨-, H⟩
        · obtain rfl := Option.some.inj H
          exact F
        · obtain ⟨v6, -, H⟩ := bind_some H
          rcases ite_e H with ⟨-, H⟩ | ⟨-, H⟩
          · obtain rfl := Option.some.inj H
            exact F
          · obtain ⟨v8, -, H⟩ := bind_some H
            obtain rfl := Option.some.inj H
            exact F
  · obtain rfl := Option.some.inj H
    exact F
def L_X7_judge : List Nat := [11, 12, 17, 18, 19, 20]
theorem fr_X7_judge {W : Nat → Bool} (hL : ∀ c ∈ L_X7_judge, W c = true) (a1 : Int32) (a2 : Int32) (h : Hp) (out : (Int32 × Hp)) (H : f_X7_judge a1 a2 h = some out) : FW W h out.2 := by
  unfold f_X7_judge at H
  have F := FW.refl W h
  obtain ⟨r1, hr1, H⟩ := bind_some H
  rcases ite_e H with ⟨-, H⟩ | ⟨-, H⟩
  · obtain rfl := Option.some.inj H
    exact F
  · obtain ⟨r3, hr3, H⟩ := bind_some H
    rcases ite_e H with ⟨-, H⟩ | ⟨-, H⟩
    · obtain rfl := Option.some.inj H
      exact F
    · obtain ⟨r5, hr5, H⟩ := bind_some H
      rcases ite_e H with ⟨-, H⟩ | ⟨-, H⟩
      · obtain ⟨r7, hr7, H⟩ := bind_some H
        have F := F.trans (fr_X7_firstUnlike (sub_L hL (by decide)) (a1 / 10) (a1 % 10) a2 h _ hr7)
        obtain rfl := Option.some.inj H
        exact F
      · obtain rfl := Option.some.inj H
        exact F
def L_X7_fits : List Nat := [3, 6, 11, 12, 17, 18, 19, 20]
theorem fb_X7_fits_151 {W : Nat → Bool} (hL : ∀ c ∈ L_X7_fits, W c = true) (a1 : Int32) (a2 : Int32) (a3 : Int32) (a4 : Int32) (a8 : Int32) (a11 : Int32) (s : (Int32 × Int32 × Int32 × Hp)) (out : (Int32 × Int32 × Int32 × Hp) ⊕ (Int32 × Int32 × Int32 × Hp)) (H : b_X7_fits_151 a1 a2 a3 a4 a8 a11 s = some out) : FW W ((fun s : (Int32 × Int32 × Int32 × Hp) => s.2.2.2) s) (Sum.elim (fun s : (Int32 × Int32 × Int32 × Hp) => s.2.2.2) (fun s : (Int32 × Int32 × Int32 × Hp) => s.2.2.2) out) := by
  unfold b_X7_fits_151 at H
  have F := FW.refl W s.2.2.2
  rcases ite_e H with ⟨-, H⟩ | ⟨-, H⟩
  · obtain rfl := Option.some.inj H
    exact F
  · obtain ⟨h18, eh18, H⟩ := bind_some H
    have F := F.wri (fun q9 => (hL 6 (by decide))) eh18
    obtain ⟨r19, hr19, H⟩ := bind_some H
    have F := F.trans (fr_X7_firstUnlike (sub_L hL (by decide)) (a1 / 10) (a1 % 10) a2 h18 _ hr19)
    rcases ite_e H with ⟨-, H⟩ | ⟨-, H⟩
    · rcases ite_e H with ⟨-, H⟩ | ⟨-, H⟩
      · obtain rfl := Option.some.inj H
        exact F
      · obtain rfl := Option.some.inj H
        exact F
    · obtain rfl := Option.some.inj H
      exact F
theorem fj_X7_fits_149 {W : Nat → Bool} (hL : ∀ c ∈ L_X7_fits, W c = true) (a1 : Int32) (a2 : Int32) (a3 : Int32) (a4 : Int32) (a8 : Int32) (a9 : Int32) (a10 : Int32) (a11 : Int32) (t0 : Int32) (h : Hp) (out : (Int32 × Hp)) (H : j_X7_fits_149 a1 a2 a3 a4 a8 a9 a10 a11 t0 h = some out) : FW W h out.2 := by
  unfold j_X7_fits_149 at H
  have F := FW.refl W h
  obtain ⟨a22, ha22, H⟩ := bind_some H
  have F := F.trans (iter_F (hs := (fun s : (Int32 × Int32 × Int32 × Hp) => s.2.2.2)) (ha := (fun s : (Int32 × Int32 × Int32 × Hp) => s.2.2.2)) (fun s9 o9 ho9 => fb_X7_fits_151 hL a1 a2 a3 a4 a8 a11 s9 o9 ho9) _ (a9, a10, t0, h) _ ha22)
  obtain ⟨h23, eh23, H⟩ := bind_some H
  have F := F.wri (fun q9 => (hL 6 (by decide))) eh23
  rcases ite_e H with ⟨-, H⟩ | ⟨-, H⟩
  · obtain rfl := Option.some.inj H
    exact F
  · obtain rfl := Option.some.inj H
    exact F
theorem fj_X7_fits_137 {W : Nat → Bool} (hL : ∀ c ∈ L_X7_fits, W c = true) (a1 : Int32) (a2 : Int32) (a3 : Int32) (a4 : Int32) (a5 : Int32) (a8 : Int32) (a9 : Int32) (a10 : Int32) (t0 : Int32) (h : Hp) (out : (Int32 × Hp)) (H : j_X7_fits_137 a1 a2 a3 a4 a5 a8 a9 a10 t0 h = some out) : FW W h out.2 := by
  unfold j_X7_fits_137 at H
  have F := FW.refl W h
  rcases ite_e H with ⟨-, H⟩ | ⟨-, H⟩
  · exact F.trans (fj_X7_fits_149 hL a1 a2 a3 a4 a8 a9 a10 t0 1 h _ H)
  · exact F.trans (fj_X7_fits_149 hL a1 a2 a3 a4 a8 a9 a10 t0 0 h _ H)
theorem fj_X7_fits_110 {W : Nat → Bool} (hL : ∀ c ∈ L_X7_fits, W c = true) (a1 : Int32) (a2 : Int32) (a3 : Int32) (a4 : Int32) (a5 : Int32) (h : Hp) (out : (Int32 × Hp)) (H : j_X7_fits_110 a1 a2 a3 a4 a5 h = some out) : FW W h out.2 := by
  unfold j_X7_fits_110 at H
  have F := FW.refl W h
  obtain ⟨v14, -, H⟩ := bind_some H
  rcases ite_e H with ⟨-, H⟩ | ⟨-, H⟩
  · exact F.trans (fj_X7_fits_137 hL a1 a2 a3 a4 a5 v14 0 (-2) 9 h _ H)
  · exact F.trans (fj_X7_fits_137 hL a1 a2 a3 a4 a5 v14 0 (-2) 12 h _ H)
theorem fb_X7_fits_151b {W : Nat → Bool} (hL : ∀ c ∈ L_X7_fits, W c = true) (a1 : Int32) (a2 : Int32) (a3 : Int32) (a4 : Int32) (a8 : Int32) (a11 : Int32) (s : (Int32 × Int32 × Int32 × Hp)) (out : (Int32 × Int32 × Int32 × Hp) ⊕ (Int32 × Int32 × Int32 × Hp)) (H : b_X7_fits_151b a1 a2 a3 a4 a8 a11 s = some out) : FW W ((fun s : (Int32 × Int32 × Int32 × Hp) => s.2.2.2) s) (Sum.elim (fun s : (Int32 × Int32 × Int32 × Hp) => s.2.2.2) (fun s : (Int32 × Int32 × Int32 × Hp) => s.2.2.2) out) := by
  unfold b_X7_fits_151b at H
  have F := FW.refl W s.2.2.2
  rcases ite_e H with ⟨-, H⟩ | ⟨-, H⟩
  · obtain rfl := Option.some.inj H
    exact F
  · obtain ⟨h29, eh29, H⟩ := bind_some H
    have F := F.wri (fun q9 => (hL 3 (by decide))) eh29
    obtain ⟨r30, hr30, H⟩ := bind_some H
    have F := F.trans (fr_X7_firstUnlike (sub_L hL (by decide)) (a1 / 10) (a1 % 10) a2 h29 _ hr30)
    rcases ite_e H with ⟨-, H⟩ | ⟨-, H⟩
    · rcases ite_e H with ⟨-, H⟩ | ⟨-, H⟩
      · obtain rfl := Option.some.inj H
        exact F
      · obtain rfl := Option.some.inj H
        exact F
    · obtain rfl := Option.some.inj H
      exact F
theorem fj_X7_fits_149b {W : Nat → Bool} (hL : ∀ c ∈ L_X7_fits, W c = true) (a1 : Int32) (a2 : Int32) (a3 : Int32) (a4 : Int32) (a8 : Int32) (a9 : Int32) (a10 : Int32) (a11 : Int32) (t0 : Int32) (h : Hp) (out : (Int32 × Hp)) (H : j_X7_fits_149b a1 a2 a3 a4 a8 a9 a10 a11 t0 h = some out) : FW W h out.2 := by
  unfold j_X7_fits_149b at H
  have F := FW.refl W h
  obtain ⟨a33, ha33, H⟩ := bind_some H
  have F := F.trans (iter_F (hs := (fun s : (Int32 × Int32 × Int32 × Hp) => s.2.2.2)) (ha := (fun s : (Int32 × Int32 × Int32 × Hp) => s.2.2.2)) (fun s9 o9 ho9 => fb_X7_fits_151b hL a1 a2 a3 a4 a8 a11 s9 o9 ho9) _ (a9, a10, t0, h) _ ha33)
  obtain ⟨h34, eh34, H⟩ := bind_some H
  have F := F.wri (fun q9 => (hL 3 (by decide))) eh34
  rcases ite_e H with ⟨-, H⟩ | ⟨-, H⟩
  · obtain rfl := Option.some.inj H
    exact F
  · obtain rfl := Option.some.inj H
    exact F
theorem fj_X7_fits_137b {W : Nat → Bool} (hL : ∀ c ∈ L_X7_fits, W c = true) (a1 : Int32) (a2 : Int32) (a3 : Int32) (a4 : Int32) (a5 : Int32) (a8 : Int32) (a9 : Int32) (a10 : Int32) (t0 : Int32) (h : Hp) (out : (Int32 × Hp)) (H : j_X7_fits_137b a1 a2 a3 a4 a5 a8 a9 a10 t0 h = some out) : FW W h out.2 := by
  unfold j_X7_fits_137b at H
  have F := FW.refl W h
  rcases ite_e H with ⟨-, H⟩ | ⟨-, H⟩
  · exact F.trans (fj_X7_fits_149b hL a1 a2 a3 a4 a8 a9 a10 t0 1 h _ H)
  · exact F.trans (fj_X7_fits_149b hL a1 a2 a3 a4 a8 a9 a10 t0 0 h _ H)
theorem fj_X7_fits_110b {W : Nat → Bool} (hL : ∀ c ∈ L_X7_fits, W c = true) (a1 : Int32) (a2 : Int32) (a3 : Int32) (a4 : Int32) (a5 : Int32) (h : Hp) (out : (Int32 × Hp)) (H : j_X7_fits_110b a1 a2 a3 a4 a5 h = some out) : FW W h out.2 := by
  unfold j_X7_fits_110b at H
  have F := FW.refl W h
  obtain ⟨v25, -, H⟩ := bind_some H
  rcases ite_e H with ⟨-, H⟩ | ⟨-, H⟩
  · exact F.trans (fj_X7_fits_137b hL a1 a2 a3 a4 a5 v25 0 (-2) 9 h _ H)
  · exact F.trans (fj_X7_fits_137b hL a1 a2 a3 a4 a5 v25 0 (-2) 12 h _ H)
theorem fj_X7_fits_73 {W : Nat → Bool} (hL : ∀ c ∈ L_X7_fits, W c = true) (a1 : Int32) (a2 : Int32) (a3 : Int32) (a4 : Int32) (a5 : Int32) (h : Hp) (out : (Int32 × Hp)) (H : j_X7_fits_73 a1 a2 a3 a4 a5 h = some out) : FW W h out.2 := by
  unfold j_X7_fits_73 at H
  have F := FW.refl W h
  obtain ⟨r11, hr11, H⟩ := bind_some H
  rcases ite_e H with ⟨-, H⟩ | ⟨-, H⟩
  · rcases ite_e H with ⟨-, H⟩ | ⟨-, H⟩
    · exact F.trans (fj_X7_fits_110 hL a1 a2 a3 a4 a5 h _ H)
    · exact F.trans (fj_X7_fits_110b hL a1 a2 a3 a4 a5 h _ H)
  · obtain rfl := Option.some.inj H
    exact F
theorem fj_X7_fits_39 {W : Nat → Bool} (hL : ∀ c ∈ L_X7_fits, W c = true) (a1 : Int32) (a2 : Int32) (a3 : Int32) (a4 : Int32) (t0 : Int32) (h : Hp) (out : (Int32 × Hp)) (H : j_X7_fits_39 a1 a2 a3 a4 t0 h = some out) : FW W h out.2 := by
  unfold j_X7_fits_39 at H
  have F := FW.refl W h
  rcases ite_e H with ⟨-, H⟩ | ⟨-, H⟩
  · obtain ⟨r9, hr9, H⟩ := bind_some H
    rcases ite_e H with ⟨-, H⟩ | ⟨-, H⟩
    · obtain rfl := Option.some.inj H
      exact F
    · exact F.trans (fj_X7_fits_73 hL a1 a2 a3 a4 t0 h _ H)
  · obtain ⟨r36, hr36, H⟩ := bind_some H
    rcases ite_e H with ⟨-, H⟩ | ⟨-, H⟩
    · obtain rfl := Option.some.inj H
      exact F
    · exact F.trans (fj_X7_fits_73 hL a1 a2 a3 a4 t0 h _ H)
theorem fr_X7_fits {W : Nat → Bool} (hL : ∀ c ∈ L_X7_fits, W c = true) (a1 : Int32) (a2 : Int32) (a3 : Int32) (a4 : Int32) (h : Hp) (out : (Int32 × Hp)) (H : f_X7_fits a1 a2 a3 a4 h = some out) : FW W h out.2 := by
  unfold f_X7_fits at H
  have F := FW.refl W h
  obtain ⟨r1, hr1, H⟩ := bind_some H
  rcases ite_e H with ⟨-, H⟩ | ⟨-, H⟩
  · obtain rfl := Option.some.inj H
    exact F
  · obtain ⟨r3, hr3, H⟩ := bind_some H
    rcases ite_e H with ⟨-, H⟩ | ⟨-, H⟩
    · obtain rfl := Option.some.inj H
      exact F
    · rcases ite_e H with ⟨-, H⟩ | ⟨-, H⟩
      · obtain rfl := Option.some.inj H
        exact F
      · rcases ite_e H with ⟨-, H⟩ | ⟨-, H⟩
        · rcases ite_e H with ⟨-, H⟩ | ⟨-, H⟩
          · exact F.trans (fj_X7_fits_39 hL a1 a2 a3 a4 0 h _ H)
          · exact F.trans (fj_X7_fits_39 hL a1 a2 a3 a4 1 h _ H)
        · obtain rfl := Option.some.inj H
          exact F
def L_X7_byTurns : List Nat := [11, 12, 17, 18, 19, 20, 49]
theorem fr_X7_byTurns {W : Nat → Bool} (hL : ∀ c ∈ L_X7_byTurns, W c = true) (a1 : Int32) (a2 : Int32) (a3 : Int32) (h : Hp) (out : (Int32 × Hp)) (H : f_X7_byTurns a1 a2 a3 h = some out) : FW W h out.2 := by
  unfold f_X7_byTurns at H
  have F := FW.refl W h
  rcases ite_e H with ⟨-, H⟩ | ⟨-, H⟩
  · obtain rfl := Option.some.inj H
    exact F
  · rcases ite_e H with ⟨-, H⟩ | ⟨-, H⟩
    · obtain rfl := Option.some.inj H
      exact F
    · rcases ite_e H with ⟨-, H⟩ | ⟨-, H⟩
      · obtain rfl := Option.some.inj H
        exact F
      · rcases ite_e H with ⟨-, H⟩ | ⟨-, H⟩
        · obtain rfl := Option.some.inj H
          exact F
        · rcases ite_e H with ⟨-, H⟩ | ⟨-, H⟩
          · obtain ⟨r6, hr6, H⟩ := bind_some H
            rcases ite_e H with ⟨-, H⟩ | ⟨-, H⟩
            · obtain rfl := Option.some.inj H
              exact F
            · obtain ⟨r8, hr8, H⟩ := bind_some H
              rcases ite_e H with ⟨-, H⟩ | ⟨-, H⟩
              · obtain rfl := Option.some.inj H
                exact F
              · rcases ite_e H with ⟨-, H⟩ | ⟨-, H⟩
                · obtain rfl := Option.some.inj H
                  exact F
                · obtain ⟨v11, -, H⟩ := bind_some H
                  obtain ⟨v12, -, H⟩ := bind_some H
                  rcases ite_e H with ⟨-, H⟩ | ⟨-, H⟩
                  · rcases ite_e H with ⟨-, H⟩ | ⟨-, H⟩
                    · obtain rfl := Option.some.inj H
                      exact F
                    · obtain rfl := Option.some.inj H
                      exact F
                  · obtain ⟨r14, hr14, H⟩ := bind_some H
                    have F := F.trans (fr_X5_become (sub_L hL (by decide)) 17 13 h (hL 18 (by decide)) (hL 19 (by decide)) (hL 20 (by decide)) (hL 17 (by decide)) _ hr14)
                    obtain ⟨r15, hr15, H⟩ := bind_some H
                    have F := F.trans (fr_X7_playAlone (sub_L hL (by decide)) (a1 / 10) ((a2 + 1) / 2) r14 _ hr15)
                    rcases ite_e H with ⟨-, H⟩ | ⟨-, H⟩
                    · obtain ⟨v20, -, H⟩ := bind_some H
                      obtain rfl := Option.some.inj H
                      exact F
                    · obtain ⟨v17, -, H⟩ := bind_some H
                      obtain ⟨r18, hr18, H⟩ := bind_some H
                      have F := F.trans (fr_X7_playAlone (sub_L hL (by decide)) (a1 % 10) (a2 / 2) r15 _ hr18)
                      obtain ⟨v19, -, H⟩ := bind_some H
                      obtain rfl := Option.some.inj H
                      exact F
          · obtain rfl := Option.some.inj H
            exact F
def L_X8_later : List Nat := [53, 54, 60, 61, 71, 72, 82]
theorem fr_X8_later {W : Nat → Bool} (hL : ∀ c ∈ L_X8_later, W c = true) (a1 : Int32) (a2 : Int32) (a3 : Int32) (h : Hp) (out : (Int32 × Hp)) (H : f_X8_later a1 a2 a3 h = some out) : FW W h out.2 := by
  unfold f_X8_later at H
  have F := FW.refl W h
  obtain ⟨r1, hr1, H⟩ := bind_some H
  rcases ite_e H with ⟨-, H⟩ | ⟨-, H⟩
  · obtain rfl := Option.some.inj H
    exact F
  · obtain ⟨r3, hr3, H⟩ := bind_some H
    rcases ite_e H with ⟨-, H⟩ | ⟨-, H⟩
    · obtain rfl := Option.some.inj H
      exact F
    · obtain ⟨r5, hr5, H⟩ := bind_some H
      rcases ite_e H with ⟨-, H⟩ | ⟨-, H⟩
      · obtain rfl := Option.some.inj H
        exact F
      · obtain ⟨r7, hr7, H⟩ := bind_some H
        rcases ite_e H with ⟨-, H⟩ | ⟨-, H⟩
        · obtain ⟨r9, hr9, H⟩ := bind_some H
          have F := F.trans (fr_X8_keeps (sub_L hL (by decide)) 82 h (hL 82 (by decide)) _ hr9)
          obtain ⟨r10, hr10, H⟩ := bind_some H
          have F := F.trans (fr_X8_goes (sub_L hL (by decide)) a1 a2 r9 _ hr10)
          obtain ⟨v11, -, H⟩ := bind_some H
          obtain ⟨r12, hr12, H⟩ := bind_some H
          have F := F.trans (fr_X8_laysBack (sub_L hL (by decide)) 82 r10.2 _ hr12)
          obtain rfl := Option.some.inj H
          exact F
        · obtain rfl := Option.some.inj H
          exact F
def L_X8_street : List Nat := [53, 54, 60, 61, 71, 72, 82]
theorem fr_X8_street {W : Nat → Bool} (hL : ∀ c ∈ L_X8_street, W c = true) (a1 : Int32) (a2 : Int32) (a3 : Int32) (h : Hp) (out : (Int32 × Hp)) (H : f_X8_street a1 a2 a3 h = some out) : FW W h out.2 := by
  unfold f_X8_street at H
  have F := FW.refl W h
  obtain ⟨r1, hr1, H⟩ := bind_some H
  rcases ite_e H with ⟨-, H⟩ | ⟨-, H⟩
  · obtain rfl := Option.some.inj H
    exact F
  · obtain ⟨r3, hr3, H⟩ := bind_some H
    rcases ite_e H with ⟨-, H⟩ | ⟨-, H⟩
    · obtain rfl := Option.some.inj H
      exact F
    · obtain ⟨r5, hr5, H⟩ := bind_some H
      rcases ite_e H with ⟨-, H⟩ | ⟨-, H⟩
      · obtain rfl := Option.some.inj H
        exact F
      · obtain ⟨r7, hr7, H⟩ := bind_some H
        rcases ite_e H with ⟨-, H⟩ | ⟨-, H⟩
        · obtain ⟨r9, hr9, H⟩ := bind_some H
          have F := F.trans (fr_X8_keeps (sub_L hL (by decide)) 82 h (hL 82 (by decide)) _ hr9)
          obtain ⟨r10, hr10, H⟩ := bind_some H
          have F := F.trans (fr_X8_goes (sub_L hL (by decide)) a1 a2 r9 _ hr10)
          rcases ite_e H with ⟨-, H⟩ | ⟨-, H⟩
          · obtain ⟨r19, hr19, H⟩ := bind_some H
            obtain ⟨r20, hr20, H⟩ := bind_some H
            have F := F.trans (fr_X8_laysBack (sub_L hL (by decide)) 82 r10.2 _ hr20)
            obtain rfl := Option.some.inj H
            exact F
          · rcases ite_e H with ⟨-, H⟩ | ⟨-, H⟩
            · obtain ⟨r17, hr17, H⟩ := bind_some H
              obtain ⟨r18, hr18, H⟩ := bind_some H
              have F := F.trans (fr_X8_laysBack (sub_L hL (by decide)) 82 r10.2 _ hr18)
              obtain rfl := Option.some.inj H
              exact F
            · rcases ite_e H with ⟨-, H⟩ | ⟨-, H⟩
              · obtain ⟨r16, hr16, H⟩ := bind_some H
                have F := F.trans (fr_X8_laysBack (sub_L hL (by decide)) 82 r10.2 _ hr16)
                obtain rfl := Option.some.inj H
                exact F
              · obtain ⟨r14, hr14, H⟩ := bind_some H
                obtain ⟨r15, hr15, H⟩ := bind_some H
                have F := F.trans (fr_X8_laysBack (sub_L hL (by decide)) 82 r10.2 _ hr15)
                obtain rfl := Option.some.inj H
                exact F
        · obtain rfl := Option.some.inj H
          exact F
def L_X8_judge : List Nat := [53, 54, 60, 61, 71, 72, 82]
theorem fr_X8_judge {W : Nat → Bool} (hL : ∀ c ∈ L_X8_judge, W c = true) (a1 : Int32) (a2 : Int32) (h : Hp) (out : (Int32 × Hp)) (H : f_X8_judge a1 a2 h = some out) : FW W h out.2 := by
  unfold f_X8_judge at H
  have F := FW.refl W h
  obtain ⟨r1, hr1, H⟩ := bind_some H
  rcases ite_e H with ⟨-, H⟩ | ⟨-, H⟩
  · obtain rfl := Option.some.inj H
    exact F
  · obtain ⟨r3, hr3, H⟩ := bind_some H
    rcases ite_e H with ⟨-, H⟩ | ⟨-, H⟩
    · obtain rfl := Option.some.inj H
      exact F
    · rcases ite_e H with ⟨-, H⟩ | ⟨-, H⟩
      · obtain ⟨r6, hr6, H⟩ := bind_some H
        have F := F.trans (fr_X8_unlike (sub_L hL (by decide)) a1 a2 h _ hr6)
        obtain rfl := Option.some.inj H
        exact F
      · obtain rfl := Option.some.inj H
        exact F
def L_X8_fits : List Nat := [53, 54, 55, 56, 59, 60, 61, 71, 72, 82]
theorem fj_X8_fits_122 {W : Nat → Bool} (hL : ∀ c ∈ L_X8_fits, W c = true) (a1 : Int32) (a2 : Int32) (a3 : Int32) (a4 : Int32) (a6 : Int32) (a7 : Int32) (c8 : Int32) (c9 : Int32) (c10 : Int32) (t0 : Int32) (t1 : Int32) (h : Hp) (out : (Int32 × Int32 × Int32 × Hp) ⊕ (Int32 × Int32 × Int32 × Hp)) (H : j_X8_fits_122 a1 a2 a3 a4 a6 a7 c8 c9 c10 t0 t1 h = some out) : FW W h (Sum.elim (fun s : (Int32 × Int32 × Int32 × Hp) => s.2.2.2) (fun s : (Int32 × Int32 × Int32 × Hp) => s.2.2.2) out) := by
  unfold j_X8_fits_122 at H
  have F := FW.refl W h
  rcases ite_e H with ⟨-, H⟩ | ⟨-, H⟩
  · obtain rfl := Option.some.inj H
    exact F
  · obtain ⟨r16, hr16, H⟩ := bind_some H
    have F := F.trans (fr_X8_becomes (sub_L hL (by decide)) a3 a6 c10 h _ hr16)
    obtain ⟨r17, hr17, H⟩ := bind_some H
    have F := F.trans (fr_X8_unlike (sub_L hL (by decide)) a1 a2 r16 _ hr17)
    rcases ite_e H with ⟨-, H⟩ | ⟨-, H⟩
    · obtain rfl := Option.some.inj H
      exact F
    · obtain rfl := Option.some.inj H
      exact F
theorem fb_X8_fits_109 {W : Nat → Bool} (hL : ∀ c ∈ L_X8_fits, W c = true) (a1 : Int32) (a2 : Int32) (a3 : Int32) (a4 : Int32) (a6 : Int32) (a7 : Int32) (s : (Int32 × Int32 × Int32 × Hp)) (out : (Int32 × Int32 × Int32 × Hp) ⊕ (Int32 × Int32 × Int32 × Hp)) (H : b_X8_fits_109 a1 a2 a3 a4 a6 a7 s = some out) : FW W ((fun s : (Int32 × Int32 × Int32 × Hp) => s.2.2.2) s) (Sum.elim (fun s : (Int32 × Int32 × Int32 × Hp) => s.2.2.2) (fun s : (Int32 × Int32 × Int32 × Hp) => s.2.2.2) out) := by
  unfold b_X8_fits_109 at H
  have F := FW.refl W s.2.2.2
  rcases ite_e H with ⟨-, H⟩ | ⟨-, H⟩
  · exact F.trans (fj_X8_fits_122 hL a1 a2 a3 a4 a6 a7 s.1 s.2.1 s.2.2.1 1 s.2.2.1 s.2.2.2 _ H)
  · exact F.trans (fj_X8_fits_122 hL a1 a2 a3 a4 a6 a7 s.1 s.2.1 s.2.2.1 0 s.2.2.1 s.2.2.2 _ H)
theorem fj_X8_fits_107 {W : Nat → Bool} (hL : ∀ c ∈ L_X8_fits, W c = true) (a1 : Int32) (a2 : Int32) (a3 : Int32) (a4 : Int32) (a6 : Int32) (a7 : Int32) (a8 : Int32) (a9 : Int32) (t0 : Int32) (h : Hp) (out : (Int32 × Hp)) (H : j_X8_fits_107 a1 a2 a3 a4 a6 a7 a8 a9 t0 h = some out) : FW W h out.2 := by
  unfold j_X8_fits_107 at H
  have F := FW.refl W h
  obtain ⟨a19, ha19, H⟩ := bind_some H
  have F := F.trans (iter_F (hs := (fun s : (Int32 × Int32 × Int32 × Hp) => s.2.2.2)) (ha := (fun s : (Int32 × Int32 × Int32 × Hp) => s.2.2.2)) (fun s9 o9 ho9 => fb_X8_fits_109 hL a1 a2 a3 a4 a6 a7 s9 o9 ho9) _ (a8, a9, t0, h) _ ha19)
  obtain ⟨r20, hr20, H⟩ := bind_some H
  have F := F.trans (fr_X8_becomes (sub_L hL (by decide)) a3 a6 a7 a19.2.2.2 _ hr20)
  rcases ite_e H with ⟨-, H⟩ | ⟨-, H⟩
  · obtain rfl := Option.some.inj H
    exact F
  · obtain rfl := Option.some.inj H
    exact F
theorem fj_X8_fits_76 {W : Nat → Bool} (hL : ∀ c ∈ L_X8_fits, W c = true) (a1 : Int32) (a2 : Int32) (a3 : Int32) (a4 : Int32) (t0 : Int32) (h : Hp) (out : (Int32 × Hp)) (H : j_X8_fits_76 a1 a2 a3 a4 t0 h = some out) : FW W h out.2 := by
  unfold j_X8_fits_76 at H
  have F := FW.refl W h
  obtain ⟨r12, hr12, H⟩ := bind_some H
  rcases ite_e H with ⟨-, H⟩ | ⟨-, H⟩
  · exact F.trans (fj_X8_fits_107 hL a1 a2 a3 a4 t0 r12 0 (-2) 9 h _ H)
  · exact F.trans (fj_X8_fits_107 hL a1 a2 a3 a4 t0 r12 0 (-2) 12 h _ H)
theorem fj_X8_fits_57 {W : Nat → Bool} (hL : ∀ c ∈ L_X8_fits, W c = true) (a1 : Int32) (a2 : Int32) (a3 : Int32) (a4 : Int32) (a5 : Int32) (h : Hp) (out : (Int32 × Hp)) (H : j_X8_fits_57 a1 a2 a3 a4 a5 h = some out) : FW W h out.2 := by
  unfold j_X8_fits_57 at H
  have F := FW.refl W h
  rcases ite_e H with ⟨-, H⟩ | ⟨-, H⟩
  · rcases ite_e H with ⟨-, H⟩ | ⟨-, H⟩
    · exact F.trans (fj_X8_fits_76 hL a1 a2 a3 a4 3 h _ H)
    · exact F.trans (fj_X8_fits_76 hL a1 a2 a3 a4 2 h _ H)
  · obtain rfl := Option.some.inj H
    exact F
theorem fr_X8_fits {W : Nat → Bool} (hL : ∀ c ∈ L_X8_fits, W c = true) (a1 : Int32) (a2 : Int32) (a3 : Int32) (a4 : Int32) (h : Hp) (out : (Int32 × Hp)) (H : f_X8_fits a1 a2 a3 a4 h = some out) : FW W h out.2 := by
  unfold f_X8_fits at H
  have F := FW.refl W h
  obtain ⟨r1, hr1, H⟩ := bind_some H
  rcases ite_e H with ⟨-, H⟩ | ⟨-, H⟩
  · obtain rfl := Option.some.inj H
    exact F
  · obtain ⟨r3, hr3, H⟩ := bind_some H
    rcases ite_e H with ⟨-, H⟩ | ⟨-, H⟩
    · obtain rfl := Option.some.inj H
      exact F
    · obtain ⟨r5, hr5, H⟩ := bind_some H
      rcases ite_e H with ⟨-, H⟩ | ⟨-, H⟩
      · obtain rfl := Option.some.inj H
        exact F
      · rcases ite_e H with ⟨-, H⟩ | ⟨-, H⟩
        · obtain ⟨r8, hr8, H⟩ := bind_some H
          rcases ite_e H with ⟨-, H⟩ | ⟨-, H⟩
          · obtain rfl := Option.some.inj H
            exact F
          · exact F.trans (fj_X8_fits_57 hL a1 a2 a3 a4 r1 h _ H)
        · obtain ⟨r22, hr22, H⟩ := bind_some H
          rcases ite_e H with ⟨-, H⟩ | ⟨-, H⟩
          · obtain rfl := Option.some.inj H
            exact F
          · exact F.trans (fj_X8_fits_57 hL a1 a2 a3 a4 r1 h _ H)
def L_GN : List Nat := [53, 54, 60, 61, 71, 72, 84]
theorem fb_X8_isEnough_56 {W : Nat → Bool} (hL : ∀ c ∈ L_GN, W c = true) {R : Nat → List Int32 → Hp → Option (Int32 × Hp)} (hR : ∀ k as h r, R k as h = some r → FW W h r.2) (a1 : Int32) (a2 : Int32) (s : (Int32 × Hp)) (out : (Int32 × Hp) ⊕ ((Int32 × Hp) ⊕ (Int32 × Hp))) (H : b_X8_isEnough_56 R a1 a2 s = some out) : FW W ((fun s : (Int32 × Hp) => s.2) s) (Sum.elim (fun s : (Int32 × Hp) => s.2) (Sum.elim (fun s : (Int32 × Hp) => s.2) (fun r : (Int32 × Hp) => r.2)) out) := by
  unfold b_X8_isEnough_56 at H
  have F := FW.refl W s.2
  rcases ite_e H with ⟨-, H⟩ | ⟨-, H⟩
  · obtain rfl := Option.some.inj H
    exact F
  · obtain ⟨h3, eh3, H⟩ := bind_some H
    have F := F.wri (fun q9 => (hL 84 (by decide))) eh3
    obtain ⟨r4, hr4, H⟩ := bind_some H
    have F := F.trans (hR _ _ _ _ hr4)
    rcases ite_e H with ⟨-, H⟩ | ⟨-, H⟩
    · obtain rfl := Option.some.inj H
      exact F
    · obtain rfl := Option.some.inj H
      exact F
theorem fb_X8_isEnough_15 {W : Nat → Bool} (hL : ∀ c ∈ L_GN, W c = true) {R : Nat → List Int32 → Hp → Option (Int32 × Hp)} (hR : ∀ k as h r, R k as h = some r → FW W h r.2) (a2 : Int32) (s : (Int32 × Hp)) (out : (Int32 × Hp) ⊕ (Int32 × Hp)) (H : b_X8_isEnough_15 R a2 s = some out) : FW W ((fun s : (Int32 × Hp) => s.2) s) (Sum.elim (fun s : (Int32 × Hp) => s.2) (fun s : (Int32 × Hp) => s.2) out) := by
  unfold b_X8_isEnough_15 at H
  have F := FW.refl W s.2
  rcases ite_e H with ⟨-, H⟩ | ⟨-, H⟩
  · obtain rfl := Option.some.inj H
    exact F
  · obtain ⟨v9, -, H⟩ := bind_some H
    obtain ⟨v10, -, H⟩ := bind_some H
    obtain ⟨r11, hr11, H⟩ := bind_some H
    have F := F.trans (fr_X8_calls (sub_L hL (by decide)) (v9 / 12) (v10 % 12) s.2 _ hr11)
    obtain rfl := Option.some.inj H
    exact F
theorem fm_X8_isEnough {W : Nat → Bool} (hL : ∀ c ∈ L_GN, W c = true) {R : Nat → List Int32 → Hp → Option (Int32 × Hp)} (hR : ∀ k as h r, R k as h = some r → FW W h r.2) (a1 : Int32) (a2 : Int32) (h : Hp) (out : (Int32 × Hp)) (H : m_X8_isEnough R a1 a2 h = some out) : FW W h out.2 := by
  unfold m_X8_isEnough at H
  have F := FW.refl W h
  rcases ite_e H with ⟨-, H⟩ | ⟨-, H⟩
  · obtain ⟨r7, hr7, H⟩ := bind_some H
    have F := F.trans (fr_X8_laysBack (sub_L hL (by decide)) 82 h _ hr7)
    obtain ⟨a12, ha12, H⟩ := bind_some H
    have F := F.trans (iter_F (hs := (fun s : (Int32 × Hp) => s.2)) (ha := (fun s : (Int32 × Hp) => s.2)) (fun s9 o9 ho9 => fb_X8_isEnough_15 hL hR a2 s9 o9 ho9) _ (0, r7) _ ha12)
    obtain ⟨r13, hr13, H⟩ := bind_some H
    obtain rfl := Option.some.inj H
    exact F
  · obtain ⟨a6o, ha6, hca6⟩ := it_R H
    have F := F.trans (iter_F (hs := (fun s : (Int32 × Hp) => s.2)) (ha := (Sum.elim (fun s : (Int32 × Hp) => s.2) (fun r : (Int32 × Hp) => r.2))) (fun s9 o9 ho9 => fb_X8_isEnough_56 hL hR a1 a2 s9 o9 ho9) _ (0, h) _ ha6)
    rcases hca6 with ⟨a6, rfl, H⟩ | ⟨r, rfl, H⟩
    · obtain rfl := Option.some.inj H
      exact F
    · obtain rfl := Option.some.inj H
      exact F
theorem frG_GN {W : Nat → Bool} (hL : ∀ c ∈ L_GN, W c = true) : ∀ (n k : Nat) (as : List Int32) (h : Hp) (r : Int32 × Hp), fG_GN n k as h = some r → FW W h r.2 := by
  intro n
  induction n with
  | zero => intro k as h r H; cases H
  | succ n ih =>
    intro k as h r H
    unfold fG_GN at H
    split at H
    · exact fm_X8_isEnough hL ih _ _ h r H
    · cases H
def L_X8_isEnough : List Nat := L_GN
theorem fr_X8_isEnough {W : Nat → Bool} (hL : ∀ c ∈ L_GN, W c = true) (a1 : Int32) (a2 : Int32) (h : Hp) (r : Int32 × Hp) (H : f_X8_isEnough a1 a2 h = some r) : FW W h r.2 := frG_GN hL 6 0 [a1, a2] h r H
def L_GO : List Nat := [53, 78]
theorem fm_X8_opensBy {W : Nat → Bool} (hL : ∀ c ∈ L_GO, W c = true) {R : Nat → List Int32 → Hp → Option (Int32 × Hp)} (hR : ∀ k as h r, R k as h = some r → FW W h r.2) (a1 : Int32) (a2 : Int32) (a3 : Int32) (h : Hp) (out : (Int32 × Hp)) (H : m_X8_opensBy R a1 a2 a3 h = some out) : FW W h out.2 := by
  unfold m_X8_opensBy at H
  have F := FW.refl W h
  rcases ite_e H with ⟨-, H⟩ | ⟨-, H⟩
  · obtain ⟨r2, hr2, H⟩ := bind_some H
    have F := F.trans (fr_X8_ran (sub_L hL (by decide)) 1 h _ hr2)
    obtain rfl := Option.some.inj H
    exact F
  · rcases ite_e H with ⟨-, H⟩ | ⟨-, H⟩
    · obtain ⟨r4, hr4, H⟩ := bind_some H
      have F := F.trans (fr_X8_ran (sub_L hL (by decide)) 20 h _ hr4)
      obtain ⟨r5, hr5, H⟩ := bind_some H
      have F := F.trans (hR _ _ _ _ hr5)
      obtain rfl := Option.some.inj H
      exact F
    · rcases ite_e H with ⟨-, H⟩ | ⟨-, H⟩
      · obtain ⟨r7, hr7, H⟩ := bind_some H
        have F := F.trans (fr_X8_ran (sub_L hL (by decide)) 70 h _ hr7)
        obtain ⟨r8, hr8, H⟩ := bind_some H
        have F := F.trans (hR _ _ _ _ hr8)
        obtain rfl := Option.some.inj H
        exact F
      · obtain ⟨r9, hr9, H⟩ := bind_some H
        obtain ⟨r10, hr10, H⟩ := bind_some H
        have F := F.trans (hR _ _ _ _ hr10)
        obtain rfl := Option.some.inj H
        exact F
theorem frG_GO {W : Nat → Bool} (hL : ∀ c ∈ L_GO, W c = true) : ∀ (n k : Nat) (as : List Int32) (h : Hp) (r : Int32 × Hp), fG_GO n k as h = some r → FW W h r.2 := by
  intro n
  induction n with
  | zero => intro k as h r H; cases H
  | succ n ih =>
    intro k as h r H
    unfold fG_GO at H
    split at H
    · exact fm_X8_opensBy hL ih _ _ _ h r H
    · cases H
def L_X8_opensBy : List Nat := L_GO
theorem fr_X8_opensBy {W : Nat → Bool} (hL : ∀ c ∈ L_GO, W c = true) (a1 : Int32) (a2 : Int32) (a3 : Int32) (h : Hp) (r : Int32 × Hp) (H : f_X8_opensBy a1 a2 a3 h = some r) : FW W h r.2 := frG_GO hL 10 0 [a1, a2, a3] h r H
def L_X8_fewest : List Nat := [53, 54, 60, 61, 71, 72, 82, 84]
theorem fb_X8_fewest_20 {W : Nat → Bool} (hL : ∀ c ∈ L_X8_fewest, W c = true) (a1 : Int32) (s : (Int32 × Int32 × Hp)) (out : (Int32 × Int32 × Hp) ⊕ (Int32 × Int32 × Hp)) (H : b_X8_fewest_20 a1 s = some out) : FW W ((fun s : (Int32 × Int32 × Hp) => s.2.2) s) (Sum.elim (fun s : (Int32 × Int32 × Hp) => s.2.2) (fun s : (Int32 × Int32 × Hp) => s.2.2) out) := by
  unfold b_X8_fewest_20 at H
  have F := FW.refl W s.2.2
  rcases ite_e H with ⟨-, H⟩ | ⟨-, H⟩
  · obtain rfl := Option.some.inj H
    exact F
  · rcases ite_e H with ⟨-, H⟩ | ⟨-, H⟩
    · obtain ⟨r5, hr5, H⟩ := bind_some H
      have F := F.trans (fr_X8_isEnough (sub_L hL (by decide)) 0 s.2.1 s.2.2 _ hr5)
      rcases ite_e H with ⟨-, H⟩ | ⟨-, H⟩
      · obtain rfl := Option.some.inj H
        exact F
      · obtain rfl := Option.some.inj H
        exact F
    · obtain rfl := Option.some.inj H
      exact F
theorem fj_X8_fewest_48 {W : Nat → Bool} (hL : ∀ c ∈ L_X8_fewest, W c = true) (a1 : Int32) (a2 : Int32) (h : Hp) (out : (Int32 × Hp)) (H : j_X8_fewest_48 a1 a2 h = some out) : FW W h out.2 := by
  unfold j_X8_fewest_48 at H
  have F := FW.refl W h
  obtain ⟨r8, hr8, H⟩ := bind_some H
  have F := F.trans (fr_X8_laysBack (sub_L hL (by decide)) 82 h _ hr8)
  rcases ite_e H with ⟨-, H⟩ | ⟨-, H⟩
  · obtain rfl := Option.some.inj H
    exact F
  · rcases ite_e H with ⟨-, H⟩ | ⟨-, H⟩
    · obtain rfl := Option.some.inj H
      exact F
    · rcases ite_e H with ⟨-, H⟩ | ⟨-, H⟩
      · obtain rfl := Option.some.inj H
        exact F
      · obtain ⟨v12, -, H⟩ := bind_some H
        obtain rfl := Option.some.inj H
        exact F
theorem fr_X8_fewest {W : Nat → Bool} (hL : ∀ c ∈ L_X8_fewest, W c = true) (a1 : Int32) (h : Hp) (out : (Int32 × Hp)) (H : f_X8_fewest a1 h = some out) : FW W h out.2 := by
  unfold f_X8_fewest at H
  have F := FW.refl W h
  rcases ite_e H with ⟨-, H⟩ | ⟨-, H⟩
  · obtain ⟨r2, hr2, H⟩ := bind_some H
    have F := F.trans (fr_X8_keeps (sub_L hL (by decide)) 82 h (hL 82 (by decide)) _ hr2)
    obtain ⟨a7, ha7, H⟩ := bind_some H
    have F := F.trans (iter_F (hs := (fun s : (Int32 × Int32 × Hp) => s.2.2)) (ha := (fun s : (Int32 × Int32 × Hp) => s.2.2)) (fun s9 o9 ho9 => fb_X8_fewest_20 hL a1 s9 o9 ho9) _ ((-2), 0, r2) _ ha7)
    exact F.trans (fj_X8_fewest_48 hL a1 a7.1 a7.2.2 _ H)
  · obtain rfl := Option.some.inj H
    exact F
def L_GT : List Nat := [54, 61, 71, 72]
theorem fb_X8_turnFrom_68 {W : Nat → Bool} (hL : ∀ c ∈ L_GT, W c = true) {R : Nat → List Int32 → Hp → Option (Int32 × Hp)} (hR : ∀ k as h r, R k as h = some r → FW W h r.2) (a1 : Int32) (a2 : Int32) (a3 : Int32) (a5 : Int32) (s : (Int32 × Int32 × Hp)) (out : (Int32 × Int32 × Hp) ⊕ (Int32 × Int32 × Hp)) (H : b_X8_turnFrom_68 R a1 a2 a3 a5 s = some out) : FW W ((fun s : (Int32 × Int32 × Hp) => s.2.2) s) (Sum.elim (fun s : (Int32 × Int32 × Hp) => s.2.2) (fun s : (Int32 × Int32 × Hp) => s.2.2) out) := by
  unfold b_X8_turnFrom_68 at H
  have F := FW.refl W s.2.2
  rcases ite_e H with ⟨-, H⟩ | ⟨-, H⟩
  · obtain rfl := Option.some.inj H
    exact F
  · obtain ⟨v5, -, H⟩ := bind_some H
    rcases ite_e H with ⟨-, H⟩ | ⟨-, H⟩
    · obtain ⟨v7, -, H⟩ := bind_some H
      rcases ite_e H with ⟨-, H⟩ | ⟨-, H⟩
      · obtain rfl := Option.some.inj H
        exact F
      · obtain ⟨v9, -, H⟩ := bind_some H
        obtain ⟨v10, -, H⟩ := bind_some H
        obtain ⟨v11, -, H⟩ := bind_some H
        obtain ⟨r12, hr12, H⟩ := bind_some H
        have F := F.trans (fr_X8_calls (sub_L hL (by decide)) s.2.1 v11 s.2.2 _ hr12)
        obtain ⟨r13, hr13, H⟩ := bind_some H
        have F := F.trans (hR _ _ _ _ hr13)
        obtain ⟨h14, eh14, H⟩ := bind_some H
        have F := F.wri (fun q9 => (hL 61 (by decide))) eh14
        obtain ⟨v15, -, H⟩ := bind_some H
        obtain ⟨h16, eh16, H⟩ := bind_some H
        have F := F.wri (fun q9 => (hL 54 (by decide))) eh16
        rcases ite_e H with ⟨-, H⟩ | ⟨-, H⟩
        · obtain rfl := Option.some.inj H
          exact F
        · obtain rfl := Option.some.inj H
          exact F
    · obtain rfl := Option.some.inj H
      exact F
theorem fj_X8_turnFrom_63 {W : Nat → Bool} (hL : ∀ c ∈ L_GT, W c = true) {R : Nat → List Int32 → Hp → Option (Int32 × Hp)} (hR : ∀ k as h r, R k as h = some r → FW W h r.2) (a1 : Int32) (a2 : Int32) (a3 : Int32) (a4 : Int32) (t0 : Int32) (h : Hp) (out : (Int32 × Hp)) (H : j_X8_turnFrom_63 R a1 a2 a3 a4 t0 h = some out) : FW W h out.2 := by
  unfold j_X8_turnFrom_63 at H
  have F := FW.refl W h
  obtain ⟨a18, ha18, H⟩ := bind_some H
  have F := F.trans (iter_F (hs := (fun s : (Int32 × Int32 × Hp) => s.2.2)) (ha := (fun s : (Int32 × Int32 × Hp) => s.2.2)) (fun s9 o9 ho9 => fb_X8_turnFrom_68 hL hR a1 a2 a3 t0 s9 o9 ho9) _ (a4, 0, h) _ ha18)
  obtain rfl := Option.some.inj H
  exact F
theorem fm_X8_turnFrom {W : Nat → Bool} (hL : ∀ c ∈ L_GT, W c = true) {R : Nat → List Int32 → Hp → Option (Int32 × Hp)} (hR : ∀ k as h r, R k as h = some r → FW W h r.2) (a1 : Int32) (a2 : Int32) (a3 : Int32) (h : Hp) (out : (Int32 × Hp)) (H : m_X8_turnFrom R a1 a2 a3 h = some out) : FW W h out.2 := by
  unfold m_X8_turnFrom at H
  have F := FW.refl W h
  rcases ite_e H with ⟨-, H⟩ | ⟨-, H⟩
  · obtain ⟨v19, -, H⟩ := bind_some H
    obtain ⟨v20, -, H⟩ := bind_some H
    obtain ⟨v21, -, H⟩ := bind_some H
    obtain ⟨v22, -, H⟩ := bind_some H
    obtain rfl := Option.some.inj H
    exact F
  · obtain ⟨r2, hr2, H⟩ := bind_some H
    have F := F.trans (hR _ _ _ _ hr2)
    rcases ite_e H with ⟨-, H⟩ | ⟨-, H⟩
    · exact F.trans (fj_X8_turnFrom_63 hL hR a1 a2 a3 r2.1 (a3 / 10) r2.2 _ H)
    · exact F.trans (fj_X8_turnFrom_63 hL hR a1 a2 a3 r2.1 (a3 % 10) r2.2 _ H)
theorem frG_GT {W : Nat → Bool} (hL : ∀ c ∈ L_GT, W c = true) : ∀ (n k : Nat) (as : List Int32) (h : Hp) (r : Int32 × Hp), fG_GT n k as h = some r → FW W h r.2 := by
  intro n
  induction n with
  | zero => intro k as h r H; cases H
  | succ n ih =>
    intro k as h r H
    unfold fG_GT at H
    split at H
    · exact fm_X8_turnFrom hL ih _ _ _ h r H
    · cases H
def L_X8_turnFrom : List Nat := L_GT
theorem fr_X8_turnFrom {W : Nat → Bool} (hL : ∀ c ∈ L_GT, W c = true) (a1 : Int32) (a2 : Int32) (a3 : Int32) (h : Hp) (r : Int32 × Hp) (H : f_X8_turnFrom a1 a2 a3 h = some r) : FW W h r.2 := frG_GT hL 8 0 [a1, a2, a3] h r H
def L_X8_byTurns : List Nat := [54, 61, 71, 72]
theorem fb_X8_byTurns_80 {W : Nat → Bool} (hL : ∀ c ∈ L_X8_byTurns, W c = true) (a1 : Int32) (a2 : Int32) (a3 : Int32) (a4 : Int32) (s : (Int32 × Int32 × Int32 × Hp)) (out : (Int32 × Int32 × Int32 × Hp) ⊕ (Int32 × Int32 × Int32 × Hp)) (H : b_X8_byTurns_80 a1 a2 a3 a4 s = some out) : FW W ((fun s : (Int32 × Int32 × Int32 × Hp) => s.2.2.2) s) (Sum.elim (fun s : (Int32 × Int32 × Int32 × Hp) => s.2.2.2) (fun s : (Int32 × Int32 × Int32 × Hp) => s.2.2.2) out) := by
  unfold b_X8_byTurns_80 at H
  have F := FW.refl W s.2.2.2
  rcases ite_e H with ⟨-, H⟩ | ⟨-, H⟩
  · obtain rfl := Option.some.inj H
    exact F
  · obtain ⟨v13, -, H⟩ := bind_some H
    rcases ite_e H with ⟨-, H⟩ | ⟨-, H⟩
    · obtain ⟨v15, -, H⟩ := bind_some H
      rcases ite_e H with ⟨-, H⟩ | ⟨-, H⟩
      · obtain rfl := Option.some.inj H
        exact F
      · obtain ⟨v17, -, H⟩ := bind_some H
        obtain ⟨v18, -, H⟩ := bind_some H
        obtain ⟨v19, -, H⟩ := bind_some H
        obtain ⟨r20, hr20, H⟩ := bind_some H
        have F := F.trans (fr_X8_calls (sub_L hL (by decide)) s.2.2.1 v19 s.2.2.2 _ hr20)
        obtain ⟨r21, hr21, H⟩ := bind_some H
        have F := F.trans (fr_X8_turnFrom (sub_L hL (by decide)) 1 a2 a1 r20.2 _ hr21)
        obtain ⟨h22, eh22, H⟩ := bind_some H
        have F := F.wri (fun q9 => (hL 61 (by decide))) eh22
        obtain ⟨v23, -, H⟩ := bind_some H
        obtain ⟨h24, eh24, H⟩ := bind_some H
        have F := F.wri (fun q9 => (hL 54 (by decide))) eh24
        rcases ite_e H with ⟨-, H⟩ | ⟨-, H⟩
        · obtain rfl := Option.some.inj H
          exact F
        · obtain rfl := Option.some.inj H
          exact F
    · obtain rfl := Option.some.inj H
      exact F
theorem fr_X8_byTurns {W : Nat → Bool} (hL : ∀ c ∈ L_X8_byTurns, W c = true) (a1 : Int32) (a2 : Int32) (a3 : Int32) (h : Hp) (out : (Int32 × Hp)) (H : f_X8_byTurns a1 a2 a3 h = some out) : FW W h out.2 := by
  unfold f_X8_byTurns at H
  have F := FW.refl W h
  rcases ite_e H with ⟨-, H⟩ | ⟨-, H⟩
  · obtain rfl := Option.some.inj H
    exact F
  · obtain ⟨r2, hr2, H⟩ := bind_some H
    rcases ite_e H with ⟨-, H⟩ | ⟨-, H⟩
    · obtain rfl := Option.some.inj H
      exact F
    · obtain ⟨r4, hr4, H⟩ := bind_some H
      rcases ite_e H with ⟨-, H⟩ | ⟨-, H⟩
      · obtain rfl := Option.some.inj H
        exact F
      · rcases ite_e H with ⟨-, H⟩ | ⟨-, H⟩
        · obtain rfl := Option.some.inj H
          exact F
        · obtain ⟨r7, hr7, H⟩ := bind_some H
          rcases ite_e H with ⟨-, H⟩ | ⟨-, H⟩
          · obtain rfl := Option.some.inj H
            exact F
          · obtain ⟨r9, hr9, H⟩ := bind_some H
            rcases ite_e H with ⟨-, H⟩ | ⟨-, H⟩
            · obtain rfl := Option.some.inj H
              exact F
            · obtain ⟨r11, hr11, H⟩ := bind_some H
              have F := F.trans (fr_X8_turnFrom (sub_L hL (by decide)) 1 a2 a1 h _ hr11)
              obtain ⟨a26, ha26, H⟩ := bind_some H
              have F := F.trans (iter_F (hs := (fun s : (Int32 × Int32 × Int32 × Hp) => s.2.2.2)) (ha := (fun s : (Int32 × Int32 × Int32 × Hp) => s.2.2.2)) (fun s9 o9 ho9 => fb_X8_byTurns_80 hL a1 a2 a3 (a1 / 10) s9 o9 ho9) _ (r11.1, 12, 0, r11.2) _ ha26)
              rcases ite_e H with ⟨-, H⟩ | ⟨-, H⟩
              · obtain rfl := Option.some.inj H
                exact F
              · obtain rfl := Option.some.inj H
                exact F
def L_GC : List Nat := [44]
theorem fj_X2_choose_114 {W : Nat → Bool} (hL : ∀ c ∈ L_GC, W c = true) {R : Nat → List Int32 → Hp → Option (Int32 × Hp)} (hR : ∀ k as h r, R k as h = some r → FW W h r.2) (a1 : Int32) (a2 : Int32) (a3 : Int32) (a4 : Int32) (a5 : Int32) (h : Hp) (out : (Int32 × Hp)) (H : j_X2_choose_114 R a1 a2 a3 a4 a5 h = some out) : FW W h out.2 := by
  unfold j_X2_choose_114 at H
  have F := FW.refl W h
  obtain ⟨r7, hr7, H⟩ := bind_some H
  have F := F.trans (hR _ _ _ _ hr7)
  obtain rfl := Option.some.inj H
  exact F
theorem fm_X2_choose {W : Nat → Bool} (hL : ∀ c ∈ L_GC, W c = true) {R : Nat → List Int32 → Hp → Option (Int32 × Hp)} (hR : ∀ k as h r, R k as h = some r → FW W h r.2) (a1 : Int32) (a2 : Int32) (a3 : Int32) (a4 : Int32) (a5 : Int32) (h : Hp) (out : (Int32 × Hp)) (H : m_X2_choose R a1 a2 a3 a4 a5 h = some out) : FW W h out.2 := by
  unfold m_X2_choose at H
  have F := FW.refl W h
  rcases ite_e H with ⟨-, H⟩ | ⟨-, H⟩
  · obtain ⟨r2, hr2, H⟩ := bind_some H
    rcases ite_e H with ⟨-, H⟩ | ⟨-, H⟩
    · obtain ⟨v4, -, H⟩ := bind_some H
      obtain ⟨v5, -, H⟩ := bind_some H
      rcases ite_e H with ⟨-, H⟩ | ⟨-, H⟩
      · rcases ite_e H with ⟨-, H⟩ | ⟨-, H⟩
        · obtain ⟨v9, -, H⟩ := bind_some H
          obtain ⟨v10, -, H⟩ := bind_some H
          obtain ⟨r11, hr11, H⟩ := bind_some H
          have F := F.trans (hR _ _ _ _ hr11)
          exact F.trans (fj_X2_choose_114 hL hR a1 a2 a3 a4 a5 r11.2 _ H)
        · exact F.trans (fj_X2_choose_114 hL hR a1 a2 a3 a4 a5 h _ H)
      · exact F.trans (fj_X2_choose_114 hL hR a1 a2 a3 a4 a5 h _ H)
    · obtain rfl := Option.some.inj H
      exact F
  · obtain ⟨r12, hr12, H⟩ := bind_some H
    rcases ite_e H with ⟨-, H⟩ | ⟨-, H⟩
    · obtain rfl := Option.some.inj H
      exact F
    · obtain ⟨h14, eh14, H⟩ := lt_e H
      have F := F.st (fun q9 => (hL 44 (by decide))) eh14
      obtain ⟨h15, eh15, H⟩ := lt_e H
      have F := F.st (fun q9 => (hL 44 (by decide))) eh15
      obtain rfl := Option.some.inj H
      exact F
theorem frG_GC {W : Nat → Bool} (hL : ∀ c ∈ L_GC, W c = true) : ∀ (n k : Nat) (as : List Int32) (h : Hp) (r : Int32 × Hp), fG_GC n k as h = some r → FW W h r.2 := by
  intro n
  induction n with
  | zero => intro k as h r H; cases H
  | succ n ih =>
    intro k as h r H
    unfold fG_GC at H
    split at H
    · exact fm_X2_choose hL ih _ _ _ _ _ h r H
    · cases H
def L_X2_choose : List Nat := L_GC
theorem fr_X2_choose {W : Nat → Bool} (hL : ∀ c ∈ L_GC, W c = true) (a1 : Int32) (a2 : Int32) (a3 : Int32) (a4 : Int32) (a5 : Int32) (h : Hp) (r : Hp) (H : f_X2_choose a1 a2 a3 a4 a5 h = some r) : FW W h r := by
  obtain ⟨q, h1, rfl⟩ := Option.map_eq_some_iff.mp H
  exact frG_GC hL 20 0 [a1, a2, a3, a4, a5] h q h1
def L_GS : List Nat := [53, 78]
theorem fm_X8_slamsBy {W : Nat → Bool} (hL : ∀ c ∈ L_GS, W c = true) {R : Nat → List Int32 → Hp → Option (Int32 × Hp)} (hR : ∀ k as h r, R k as h = some r → FW W h r.2) (a1 : Int32) (a2 : Int32) (a3 : Int32) (h : Hp) (out : (Int32 × Hp)) (H : m_X8_slamsBy R a1 a2 a3 h = some out) : FW W h out.2 := by
  unfold m_X8_slamsBy at H
  have F := FW.refl W h
  rcases ite_e H with ⟨-, H⟩ | ⟨-, H⟩
  · obtain ⟨r2, hr2, H⟩ := bind_some H
    have F := F.trans (fr_X8_ran (sub_L hL (by decide)) 11 h _ hr2)
    obtain rfl := Option.some.inj H
    exact F
  · rcases ite_e H with ⟨-, H⟩ | ⟨-, H⟩
    · obtain ⟨r4, hr4, H⟩ := bind_some H
      obtain ⟨r5, hr5, H⟩ := bind_some H
      have F := F.trans (hR _ _ _ _ hr5)
      obtain rfl := Option.some.inj H
      exact F
    · rcases ite_e H with ⟨-, H⟩ | ⟨-, H⟩
      · obtain ⟨r7, hr7, H⟩ := bind_some H
        obtain ⟨r8, hr8, H⟩ := bind_some H
        have F := F.trans (hR _ _ _ _ hr8)
        obtain rfl := Option.some.inj H
        exact F
      · rcases ite_e H with ⟨-, H⟩ | ⟨-, H⟩
        · obtain ⟨r10, hr10, H⟩ := bind_some H
          have F := F.trans (fr_X8_ran (sub_L hL (by decide)) 40 h _ hr10)
          obtain ⟨r11, hr11, H⟩ := bind_some H
          have F := F.trans (hR _ _ _ _ hr11)
          obtain rfl := Option.some.inj H
          exact F
        · rcases ite_e H with ⟨-, H⟩ | ⟨-, H⟩
          · obtain ⟨r13, hr13, H⟩ := bind_some H
            have F := F.trans (fr_X8_ran (sub_L hL (by decide)) 50 h _ hr13)
            obtain ⟨r14, hr14, H⟩ := bind_some H
            have F := F.trans (hR _ _ _ _ hr14)
            obtain ⟨v15, -, H⟩ := bind_some H
            obtain ⟨r16, hr16, H⟩ := bind_some H
            have F := F.trans (fr_X8_opensBy (sub_L hL (by decide)) a1 v15 2 r14.2 _ hr16)
            obtain rfl := Option.some.inj H
            exact F
          · obtain ⟨r17, hr17, H⟩ := bind_some H
            obtain ⟨r18, hr18, H⟩ := bind_some H
            have F := F.trans (hR _ _ _ _ hr18)
            obtain rfl := Option.some.inj H
            exact F
theorem frG_GS {W : Nat → Bool} (hL : ∀ c ∈ L_GS, W c = true) : ∀ (n k : Nat) (as : List Int32) (h : Hp) (r : Int32 × Hp), fG_GS n k as h = some r → FW W h r.2 := by
  intro n
  induction n with
  | zero => intro k as h r H; cases H
  | succ n ih =>
    intro k as h r H
    unfold fG_GS at H
    split at H
    · exact fm_X8_slamsBy hL ih _ _ _ h r H
    · cases H
def L_X8_slamsBy : List Nat := L_GS
theorem fr_X8_slamsBy {W : Nat → Bool} (hL : ∀ c ∈ L_GS, W c = true) (a1 : Int32) (a2 : Int32) (a3 : Int32) (h : Hp) (r : Int32 × Hp) (H : f_X8_slamsBy a1 a2 a3 h = some r) : FW W h r.2 := frG_GS hL 10 0 [a1, a2, a3] h r H
def L_X2_search : List Nat := [44]
theorem fr_X2_search {W : Nat → Bool} (hL : ∀ c ∈ L_X2_search, W c = true) (h : Hp) (out : Hp) (H : f_X2_search h = some out) : FW W h out := by
  unfold f_X2_search at H
  have F := FW.refl W h
  obtain ⟨r1, hr1, H⟩ := bind_some H
  have F := F.trans (fr_X2_choose (sub_L hL (by decide)) 0 0 0 0 0 h _ hr1)
  obtain rfl := Option.some.inj H
  exact F
def L_X7_evening : List Nat := [11, 12, 44, 45, 46, 47, 48]
theorem fb_X7_evening_20 {W : Nat → Bool} (hL : ∀ c ∈ L_X7_evening, W c = true) (a1 : Int32) (s : (Int32 × Hp)) (out : (Int32 × Hp) ⊕ (Int32 × Hp)) (H : b_X7_evening_20 a1 s = some out) : FW W ((fun s : (Int32 × Hp) => s.2) s) (Sum.elim (fun s : (Int32 × Hp) => s.2) (fun s : (Int32 × Hp) => s.2) out) := by
  unfold b_X7_evening_20 at H
  have F := FW.refl W s.2
  rcases ite_e H with ⟨-, H⟩ | ⟨-, H⟩
  · obtain rfl := Option.some.inj H
    exact F
  · obtain ⟨r5, hr5, H⟩ := bind_some H
    rcases ite_e H with ⟨-, H⟩ | ⟨-, H⟩
    · obtain ⟨v7, -, H⟩ := bind_some H
      obtain ⟨v8, -, H⟩ := bind_some H
      obtain ⟨v9, -, H⟩ := bind_some H
      obtain ⟨r10, hr10, H⟩ := bind_some H
      have F := F.trans (fr_X7_worth (sub_L hL (by decide)) 13 s.1 v8 s.2 _ hr10)
      obtain ⟨r11, hr11, H⟩ := bind_some H
      have F := F.trans (fr_X2_offer (sub_L hL (by decide)) s.1 v9 v8 r10.1 r10.2 _ hr11)
      obtain rfl := Option.some.inj H
      exact F
    · obtain rfl := Option.some.inj H
      exact F
theorem fr_X7_evening {W : Nat → Bool} (hL : ∀ c ∈ L_X7_evening, W c = true) (a1 : Int32) (h : Hp) (out : (Int32 × Hp)) (H : f_X7_evening a1 h = some out) : FW W h out.2 := by
  unfold f_X7_evening at H
  have F := FW.refl W h
  rcases ite_e H with ⟨-, H⟩ | ⟨-, H⟩
  · obtain rfl := Option.some.inj H
    exact F
  · rcases ite_e H with ⟨-, H⟩ | ⟨-, H⟩
    · obtain ⟨r3, hr3, H⟩ := bind_some H
      have F := F.trans (fr_X2_clear (sub_L hL (by decide)) h _ hr3)
      obtain ⟨a12, ha12, H⟩ := bind_some H
      have F := F.trans (iter_F (hs := (fun s : (Int32 × Hp) => s.2)) (ha := (fun s : (Int32 × Hp) => s.2)) (fun s9 o9 ho9 => fb_X7_evening_20 hL a1 s9 o9 ho9) _ (0, r3) _ ha12)
      obtain ⟨r13, hr13, H⟩ := bind_some H
      have F := F.trans (fr_X2_search (sub_L hL (by decide)) a12.2 _ hr13)
      rcases ite_e H with ⟨-, H⟩ | ⟨-, H⟩
      · obtain rfl := Option.some.inj H
        exact F
      · obtain rfl := Option.some.inj H
        exact F
    · obtain rfl := Option.some.inj H
      exact F
def L_GK : List Nat := [53, 78]
theorem fm_X8_countsBy {W : Nat → Bool} (hL : ∀ c ∈ L_GK, W c = true) {R : Nat → List Int32 → Hp → Option (Int32 × Hp)} (hR : ∀ k as h r, R k as h = some r → FW W h r.2) (a1 : Int32) (a2 : Int32) (a3 : Int32) (h : Hp) (out : (Int32 × Hp)) (H : m_X8_countsBy R a1 a2 a3 h = some out) : FW W h out.2 := by
  unfold m_X8_countsBy at H
  have F := FW.refl W h
  rcases ite_e H with ⟨-, H⟩ | ⟨-, H⟩
  · obtain ⟨r2, hr2, H⟩ := bind_some H
    have F := F.trans (fr_X8_ran (sub_L hL (by decide)) 10 h _ hr2)
    obtain ⟨v3, -, H⟩ := bind_some H
    obtain ⟨r4, hr4, H⟩ := bind_some H
    have F := F.trans (fr_X8_opensBy (sub_L hL (by decide)) a1 v3 a3 r2 _ hr4)
    obtain rfl := Option.some.inj H
    exact F
  · rcases ite_e H with ⟨-, H⟩ | ⟨-, H⟩
    · obtain ⟨r6, hr6, H⟩ := bind_some H
      obtain ⟨r7, hr7, H⟩ := bind_some H
      have F := F.trans (hR _ _ _ _ hr7)
      obtain rfl := Option.some.inj H
      exact F
    · rcases ite_e H with ⟨-, H⟩ | ⟨-, H⟩
      · obtain ⟨r9, hr9, H⟩ := bind_some H
        have F := F.trans (fr_X8_ran (sub_L hL (by decide)) 30 h _ hr9)
        obtain ⟨r10, hr10, H⟩ := bind_some H
        have F := F.trans (hR _ _ _ _ hr10)
        obtain rfl := Option.some.inj H
        exact F
      · rcases ite_e H with ⟨-, H⟩ | ⟨-, H⟩
        · obtain ⟨r12, hr12, H⟩ := bind_some H
          have F := F.trans (fr_X8_ran (sub_L hL (by decide)) 41 h _ hr12)
          obtain ⟨r13, hr13, H⟩ := bind_some H
          have F := F.trans (hR _ _ _ _ hr13)
          obtain rfl := Option.some.inj H
          exact F
        · rcases ite_e H with ⟨-, H⟩ | ⟨-, H⟩
          · obtain ⟨r15, hr15, H⟩ := bind_some H
            obtain ⟨r16, hr16, H⟩ := bind_some H
            have F := F.trans (hR _ _ _ _ hr16)
            obtain rfl := Option.some.inj H
            exact F
          · rcases ite_e H with ⟨-, H⟩ | ⟨-, H⟩
            · obtain ⟨r18, hr18, H⟩ := bind_some H
              obtain ⟨r19, hr19, H⟩ := bind_some H
              have F := F.trans (hR _ _ _ _ hr19)
              obtain rfl := Option.some.inj H
              exact F
            · rcases ite_e H with ⟨-, H⟩ | ⟨-, H⟩
              · obtain ⟨r21, hr21, H⟩ := bind_some H
                obtain ⟨r22, hr22, H⟩ := bind_some H
                have F := F.trans (hR _ _ _ _ hr22)
                obtain rfl := Option.some.inj H
                exact F
              · rcases ite_e H with ⟨-, H⟩ | ⟨-, H⟩
                · obtain ⟨r24, hr24, H⟩ := bind_some H
                  have F := F.trans (fr_X8_ran (sub_L hL (by decide)) 80 h _ hr24)
                  obtain ⟨r25, hr25, H⟩ := bind_some H
                  have F := F.trans (hR _ _ _ _ hr25)
                  obtain ⟨v26, -, H⟩ := bind_some H
                  obtain ⟨r27, hr27, H⟩ := bind_some H
                  have F := F.trans (fr_X8_slamsBy (sub_L hL (by decide)) a1 v26 2 r25.2 _ hr27)
                  obtain rfl := Option.some.inj H
                  exact F
                · obtain ⟨r28, hr28, H⟩ := bind_some H
                  obtain ⟨r29, hr29, H⟩ := bind_some H
                  have F := F.trans (hR _ _ _ _ hr29)
                  obtain rfl := Option.some.inj H
                  exact F
theorem frG_GK {W : Nat → Bool} (hL : ∀ c ∈ L_GK, W c = true) : ∀ (n k : Nat) (as : List Int32) (h : Hp) (r : Int32 × Hp), fG_GK n k as h = some r → FW W h r.2 := by
  intro n
  induction n with
  | zero => intro k as h r H; cases H
  | succ n ih =>
    intro k as h r H
    unfold fG_GK at H
    split at H
    · exact fm_X8_countsBy hL ih _ _ _ h r H
    · cases H
def L_X8_countsBy : List Nat := L_GK
theorem fr_X8_countsBy {W : Nat → Bool} (hL : ∀ c ∈ L_GK, W c = true) (a1 : Int32) (a2 : Int32) (a3 : Int32) (h : Hp) (r : Int32 × Hp) (H : f_X8_countsBy a1 a2 a3 h = some r) : FW W h r.2 := frG_GK hL 10 0 [a1, a2, a3] h r H
def L_GL : List Nat := [53, 78]
theorem fm_X8_tells {W : Nat → Bool} (hL : ∀ c ∈ L_GL, W c = true) {R : Nat → List Int32 → Hp → Option (Int32 × Hp)} (hR : ∀ k as h r, R k as h = some r → FW W h r.2) (a1 : Int32) (a2 : Int32) (a3 : Int32) (h : Hp) (out : (Int32 × Hp)) (H : m_X8_tells R a1 a2 a3 h = some out) : FW W h out.2 := by
  unfold m_X8_tells at H
  have F := FW.refl W h
  rcases ite_e H with ⟨-, H⟩ | ⟨-, H⟩
  · obtain ⟨r2, hr2, H⟩ := bind_some H
    have F := F.trans (fr_X8_ran (sub_L hL (by decide)) 2 h _ hr2)
    obtain ⟨v3, -, H⟩ := bind_some H
    obtain ⟨r4, hr4, H⟩ := bind_some H
    have F := F.trans (fr_X8_countsBy (sub_L hL (by decide)) a1 v3 a3 r2 _ hr4)
    obtain ⟨v5, -, H⟩ := bind_some H
    obtain ⟨r6, hr6, H⟩ := bind_some H
    have F := F.trans (fr_X8_slamsBy (sub_L hL (by decide)) a1 v5 1 r4.2 _ hr6)
    obtain rfl := Option.some.inj H
    exact F
  · rcases ite_e H with ⟨-, H⟩ | ⟨-, H⟩
    · obtain ⟨r8, hr8, H⟩ := bind_some H
      have F := F.trans (fr_X8_ran (sub_L hL (by decide)) 60 h _ hr8)
      obtain ⟨r9, hr9, H⟩ := bind_some H
      have F := F.trans (hR _ _ _ _ hr9)
      obtain rfl := Option.some.inj H
      exact F
    · rcases ite_e H with ⟨-, H⟩ | ⟨-, H⟩
      · obtain ⟨r11, hr11, H⟩ := bind_some H
        have F := F.trans (fr_X8_ran (sub_L hL (by decide)) 81 h _ hr11)
        obtain ⟨r12, hr12, H⟩ := bind_some H
        have F := F.trans (hR _ _ _ _ hr12)
        obtain rfl := Option.some.inj H
        exact F
      · obtain ⟨r13, hr13, H⟩ := bind_some H
        obtain ⟨r14, hr14, H⟩ := bind_some H
        have F := F.trans (hR _ _ _ _ hr14)
        obtain rfl := Option.some.inj H
        exact F
theorem frG_GL {W : Nat → Bool} (hL : ∀ c ∈ L_GL, W c = true) : ∀ (n k : Nat) (as : List Int32) (h : Hp) (r : Int32 × Hp), fG_GL n k as h = some r → FW W h r.2 := by
  intro n
  induction n with
  | zero => intro k as h r H; cases H
  | succ n ih =>
    intro k as h r H
    unfold fG_GL at H
    split at H
    · exact fm_X8_tells hL ih _ _ _ h r H
    · cases H
def L_X8_tells : List Nat := L_GL
theorem fr_X8_tells {W : Nat → Bool} (hL : ∀ c ∈ L_GL, W c = true) (a1 : Int32) (a2 : Int32) (a3 : Int32) (h : Hp) (r : Int32 × Hp) (H : f_X8_tells a1 a2 a3 h = some r) : FW W h r.2 := frG_GL hL 10 0 [a1, a2, a3] h r H
def L_X8_act : List Nat := [53, 78]
theorem fr_X8_act {W : Nat → Bool} (hL : ∀ c ∈ L_X8_act, W c = true) (a1 : Int32) (a2 : Int32) (a3 : Int32) (h : Hp) (out : (Int32 × Hp)) (H : f_X8_act a1 a2 a3 h = some out) : FW W h out.2 := by
  unfold f_X8_act at H
  have F := FW.refl W h
  obtain ⟨h1, eh1, H⟩ := lt_e H
  have F := F.st (fun q9 => (hL 53 (by decide))) eh1
  obtain ⟨r2, hr2, H⟩ := bind_some H
  rcases ite_e H with ⟨-, H⟩ | ⟨-, H⟩
  · obtain rfl := Option.some.inj H
    exact F
  · obtain ⟨r4, hr4, H⟩ := bind_some H
    rcases ite_e H with ⟨-, H⟩ | ⟨-, H⟩
    · obtain rfl := Option.some.inj H
      exact F
    · obtain ⟨v6, -, H⟩ := bind_some H
      rcases ite_e H with ⟨-, H⟩ | ⟨-, H⟩
      · obtain ⟨r13, hr13, H⟩ := bind_some H
        have F := F.trans (fr_X8_opensBy (sub_L hL (by decide)) a1 v6 a3 h1 _ hr13)
        obtain rfl := Option.some.inj H
        exact F
      · rcases ite_e H with ⟨-, H⟩ | ⟨-, H⟩
        · obtain ⟨r12, hr12, H⟩ := bind_some H
          have F := F.trans (fr_X8_countsBy (sub_L hL (by decide)) a1 v6 a3 h1 _ hr12)
          obtain rfl := Option.some.inj H
          exact F
        · rcases ite_e H with ⟨-, H⟩ | ⟨-, H⟩
          · obtain ⟨r11, hr11, H⟩ := bind_some H
            have F := F.trans (fr_X8_slamsBy (sub_L hL (by decide)) a1 v6 a3 h1 _ hr11)
            obtain rfl := Option.some.inj H
            exact F
          · obtain ⟨r10, hr10, H⟩ := bind_some H
            have F := F.trans (fr_X8_tells (sub_L hL (by decide)) a1 v6 a3 h1 _ hr10)
            obtain rfl := Option.some.inj H
            exact F
def L_GF : List Nat := [41, 43]
theorem fj_X1_from_102 {W : Nat → Bool} (hL : ∀ c ∈ L_GF, W c = true) {R : Nat → List Int32 → Hp → Option (Int32 × Hp)} (hR : ∀ k as h r, R k as h = some r → FW W h r.2) (a3 : Int32) (a4 : Int32) (a5 : Int32) (a6 : Int32) (h : Hp) (out : (Int32 × Hp)) (H : j_X1_from_102 R a3 a4 a5 a6 h = some out) : FW W h out.2 := by
  unfold j_X1_from_102 at H
  have F := FW.refl W h
  obtain ⟨h13, eh13, H⟩ := lt_e H
  have F := F.st (fun q9 => (hL 41 (by decide))) eh13
  obtain ⟨v14, -, H⟩ := bind_some H
  obtain ⟨r15, hr15, H⟩ := bind_some H
  have F := F.trans (hR _ _ _ _ hr15)
  obtain rfl := Option.some.inj H
  exact F
theorem fj_X1_from_52 {W : Nat → Bool} (hL : ∀ c ∈ L_GF, W c = true) {R : Nat → List Int32 → Hp → Option (Int32 × Hp)} (hR : ∀ k as h r, R k as h = some r → FW W h r.2) (a2 : Int32) (a3 : Int32) (a4 : Int32) (a5 : Int32) (h : Hp) (out : (Int32 × Hp)) (H : j_X1_from_52 R a2 a3 a4 a5 h = some out) : FW W h out.2 := by
  unfold j_X1_from_52 at H
  have F := FW.refl W h
  obtain ⟨r8, hr8, H⟩ := bind_some H
  rcases ite_e H with ⟨-, H⟩ | ⟨-, H⟩
  · obtain rfl := Option.some.inj H
    exact F
  · rcases ite_e H with ⟨-, H⟩ | ⟨-, H⟩
    · obtain ⟨v11, -, H⟩ := bind_some H
      rcases ite_e H with ⟨-, H⟩ | ⟨-, H⟩
      · exact F.trans (fj_X1_from_102 hL hR a3 a4 a5 v11 h _ H)
      · obtain ⟨h16, eh16, H⟩ := bind_some H
        have F := F.wri (fun q9 => (hL 43 (by decide))) eh16
        exact F.trans (fj_X1_from_102 hL hR a3 a4 a5 v11 h16 _ H)
    · obtain rfl := Option.some.inj H
      exact F
theorem fm_X1_from {W : Nat → Bool} (hL : ∀ c ∈ L_GF, W c = true) {R : Nat → List Int32 → Hp → Option (Int32 × Hp)} (hR : ∀ k as h r, R k as h = some r → FW W h r.2) (a1 : Int32) (a2 : Int32) (a3 : Int32) (a4 : Int32) (h : Hp) (out : (Int32 × Hp)) (H : m_X1_from R a1 a2 a3 a4 h = some out) : FW W h out.2 := by
  unfold m_X1_from at H
  have F := FW.refl W h
  obtain ⟨a7, ha7, H⟩ := bind_some H
  exact F.trans (fj_X1_from_52 hL hR a2 a3 a4 a7.1 h _ H)
theorem fm_X1_perBody {W : Nat → Bool} (hL : ∀ c ∈ L_GF, W c = true) {R : Nat → List Int32 → Hp → Option (Int32 × Hp)} (hR : ∀ k as h r, R k as h = some r → FW W h r.2) (a1 : Int32) (a2 : Int32) (a3 : Int32) (a4 : Int32) (h : Hp) (out : (Int32 × Hp)) (H : m_X1_perBody R a1 a2 a3 a4 h = some out) : FW W h out.2 := by
  unfold m_X1_perBody at H
  have F := FW.refl W h
  rcases ite_e H with ⟨-, H⟩ | ⟨-, H⟩
  · obtain rfl := Option.some.inj H
    exact F
  · rcases ite_e H with ⟨-, H⟩ | ⟨-, H⟩
    · obtain ⟨r3, hr3, H⟩ := bind_some H
      have F := F.trans (hR _ _ _ _ hr3)
      obtain ⟨r4, hr4, H⟩ := bind_some H
      have F := F.trans (hR _ _ _ _ hr4)
      obtain rfl := Option.some.inj H
      exact F
    · rcases ite_e H with ⟨-, H⟩ | ⟨-, H⟩
      · obtain ⟨r6, hr6, H⟩ := bind_some H
        have F := F.trans (hR _ _ _ _ hr6)
        obtain rfl := Option.some.inj H
        exact F
      · rcases ite_e H with ⟨-, H⟩ | ⟨-, H⟩
        · obtain rfl := Option.some.inj H
          exact F
        · rcases ite_e H with ⟨-, H⟩ | ⟨-, H⟩
          · obtain ⟨r9, hr9, H⟩ := bind_some H
            have F := F.trans (hR _ _ _ _ hr9)
            obtain rfl := Option.some.inj H
            exact F
          · rcases ite_e H with ⟨-, H⟩ | ⟨-, H⟩
            · obtain ⟨r11, hr11, H⟩ := bind_some H
              have F := F.trans (hR _ _ _ _ hr11)
              obtain rfl := Option.some.inj H
              exact F
            · rcases ite_e H with ⟨-, H⟩ | ⟨-, H⟩
              · obtain ⟨r13, hr13, H⟩ := bind_some H
                have F := F.trans (hR _ _ _ _ hr13)
                obtain rfl := Option.some.inj H
                exact F
              · rcases ite_e H with ⟨-, H⟩ | ⟨-, H⟩
                · obtain ⟨r15, hr15, H⟩ := bind_some H
                  have F := F.trans (hR _ _ _ _ hr15)
                  obtain rfl := Option.some.inj H
                  exact F
                · rcases ite_e H with ⟨-, H⟩ | ⟨-, H⟩
                  · obtain ⟨r17, hr17, H⟩ := bind_some H
                    have F := F.trans (hR _ _ _ _ hr17)
                    obtain ⟨r18, hr18, H⟩ := bind_some H
                    have F := F.trans (hR _ _ _ _ hr18)
                    obtain rfl := Option.some.inj H
                    exact F
                  · rcases ite_e H with ⟨-, H⟩ | ⟨-, H⟩
                    · obtain ⟨r20, hr20, H⟩ := bind_some H
                      have F := F.trans (hR _ _ _ _ hr20)
                      obtain rfl := Option.some.inj H
                      exact F
                    · rcases ite_e H with ⟨-, H⟩ | ⟨-, H⟩
                      · obtain ⟨r22, hr22, H⟩ := bind_some H
                        have F := F.trans (hR _ _ _ _ hr22)
                        obtain rfl := Option.some.inj H
                        exact F
                      · rcases ite_e H with ⟨-, H⟩ | ⟨-, H⟩
                        · obtain ⟨r24, hr24, H⟩ := bind_some H
                          have F := F.trans (hR _ _ _ _ hr24)
                          obtain ⟨r25, hr25, H⟩ := bind_some H
                          have F := F.trans (hR _ _ _ _ hr25)
                          obtain rfl := Option.some.inj H
                          exact F
                        · obtain ⟨r26, hr26, H⟩ := bind_some H
                          have F := F.trans (hR _ _ _ _ hr26)
                          obtain rfl := Option.some.inj H
                          exact F
theorem frG_GF {W : Nat → Bool} (hL : ∀ c ∈ L_GF, W c = true) : ∀ (n k : Nat) (as : List Int32) (h : Hp) (r : Int32 × Hp), fG_GF n k as h = some r → FW W h r.2 := by
  intro n
  induction n with
  | zero => intro k as h r H; cases H
  | succ n ih =>
    intro k as h r H
    unfold fG_GF at H
    split at H
    · exact fm_X1_from hL ih _ _ _ _ h r H
    · exact fm_X1_perBody hL ih _ _ _ _ h r H
    · cases H
def L_X1_from : List Nat := L_GF
theorem fr_X1_from {W : Nat → Bool} (hL : ∀ c ∈ L_GF, W c = true) (a1 : Int32) (a2 : Int32) (a3 : Int32) (a4 : Int32) (h : Hp) (r : Int32 × Hp) (H : f_X1_from a1 a2 a3 a4 h = some r) : FW W h r.2 := frG_GF hL 60 0 [a1, a2, a3, a4] h r H
def L_X1_perBody : List Nat := L_GF
theorem fr_X1_perBody {W : Nat → Bool} (hL : ∀ c ∈ L_GF, W c = true) (a1 : Int32) (a2 : Int32) (a3 : Int32) (a4 : Int32) (h : Hp) (r : Int32 × Hp) (H : f_X1_perBody a1 a2 a3 a4 h = some r) : FW W h r.2 := frG_GF hL 60 1 [a1, a2, a3, a4] h r H
def L_X1_perform : List Nat := [41, 43]
theorem fr_X1_perform {W : Nat → Bool} (hL : ∀ c ∈ L_X1_perform, W c = true) (a1 : Int32) (a2 : Int32) (a3 : Int32) (h : Hp) (out : (Int32 × Hp)) (H : f_X1_perform a1 a2 a3 h = some out) : FW W h out.2 := by
  unfold f_X1_perform at H
  have F := FW.refl W h
  obtain ⟨h1, eh1, H⟩ := lt_e H
  have F := F.st (fun q9 => (hL 41 (by decide))) eh1
  obtain ⟨r2, hr2, H⟩ := bind_some H
  rcases ite_e H with ⟨-, H⟩ | ⟨-, H⟩
  · obtain rfl := Option.some.inj H
    exact F
  · rcases ite_e H with ⟨-, H⟩ | ⟨-, H⟩
    · obtain rfl := Option.some.inj H
      exact F
    · rcases ite_e H with ⟨-, H⟩ | ⟨-, H⟩
      · obtain ⟨h6, eh6, H⟩ := lt_e H
        have F := F.st (fun q9 => (hL 41 (by decide))) eh6
        obtain ⟨v7, -, H⟩ := bind_some H
        obtain ⟨h8, eh8, H⟩ := lt_e H
        have F := F.st (fun q9 => (hL 41 (by decide))) eh8
        obtain ⟨r9, hr9, H⟩ := bind_some H
        have F := F.trans (fr_X1_from (sub_L hL (by decide)) (h8.1 41 5) a2 a3 0 h8 _ hr9)
        obtain rfl := Option.some.inj H
        exact F
      · obtain rfl := Option.some.inj H
        exact F
def L_X7_act : List Nat := [41, 43]
theorem fr_X7_act {W : Nat → Bool} (hL : ∀ c ∈ L_X7_act, W c = true) (a1 : Int32) (a2 : Int32) (a3 : Int32) (h : Hp) (out : (Int32 × Hp)) (H : f_X7_act a1 a2 a3 h = some out) : FW W h out.2 := by
  unfold f_X7_act at H
  have F := FW.refl W h
  obtain ⟨r1, hr1, H⟩ := bind_some H
  have F := F.trans (fr_X1_perform (sub_L hL (by decide)) a1 a2 a3 h _ hr1)
  obtain rfl := Option.some.inj H
  exact F
def L_GE : List Nat := [53, 70]
theorem fb_X8_isE_9 {W : Nat → Bool} (hL : ∀ c ∈ L_GE, W c = true) {R : Nat → List Int32 → Hp → Option (Int32 × Hp)} (hR : ∀ k as h r, R k as h = some r → FW W h r.2) (s : Hp) (out : Hp ⊕ (Hp ⊕ (Int32 × Hp))) (H : b_X8_isE_9 R s = some out) : FW W ((fun s : Hp => s) s) (Sum.elim (fun s : Hp => s) (Sum.elim (fun s : Hp => s) (fun r : (Int32 × Hp) => r.2)) out) := by
  unfold b_X8_isE_9 at H
  have F := FW.refl W s
  obtain ⟨r3, hr3, H⟩ := bind_some H
  have F := F.trans (fr_X8_is (sub_L hL (by decide)) 124 s _ hr3)
  rcases ite_e H with ⟨-, H⟩ | ⟨-, H⟩
  · obtain rfl := Option.some.inj H
    exact F
  · obtain ⟨r5, hr5, H⟩ := bind_some H
    have F := F.trans (hR _ _ _ _ hr5)
    rcases ite_e H with ⟨-, H⟩ | ⟨-, H⟩
    · obtain rfl := Option.some.inj H
      exact F
    · obtain ⟨r7, hr7, H⟩ := bind_some H
      have F := F.trans (fr_X8_codes (sub_L hL (by decide)) 6 r5.2 _ hr7)
      obtain rfl := Option.some.inj H
      exact F
theorem fm_X8_isE {W : Nat → Bool} (hL : ∀ c ∈ L_GE, W c = true) {R : Nat → List Int32 → Hp → Option (Int32 × Hp)} (hR : ∀ k as h r, R k as h = some r → FW W h r.2) (h : Hp) (out : (Int32 × Hp)) (H : m_X8_isE R h = some out) : FW W h out.2 := by
  unfold m_X8_isE at H
  have F := FW.refl W h
  obtain ⟨r1, hr1, H⟩ := bind_some H
  have F := F.trans (hR _ _ _ _ hr1)
  rcases ite_e H with ⟨-, H⟩ | ⟨-, H⟩
  · obtain rfl := Option.some.inj H
    exact F
  · obtain ⟨a8o, ha8, hca8⟩ := it_R H
    have F := F.trans (iter_F (hs := (fun s : Hp => s)) (ha := (Sum.elim (fun s : Hp => s) (fun r : (Int32 × Hp) => r.2))) (fun s9 o9 ho9 => fb_X8_isE_9 hL hR s9 o9 ho9) _ r1.2 _ ha8)
    rcases hca8 with ⟨a8, rfl, H⟩ | ⟨r, rfl, H⟩
    · obtain rfl := Option.some.inj H
      exact F
    · obtain rfl := Option.some.inj H
      exact F
theorem fb_X8_isA_9 {W : Nat → Bool} (hL : ∀ c ∈ L_GE, W c = true) {R : Nat → List Int32 → Hp → Option (Int32 × Hp)} (hR : ∀ k as h r, R k as h = some r → FW W h r.2) (s : Hp) (out : Hp ⊕ (Hp ⊕ (Int32 × Hp))) (H : b_X8_isA_9 R s = some out) : FW W ((fun s : Hp => s) s) (Sum.elim (fun s : Hp => s) (Sum.elim (fun s : Hp => s) (fun r : (Int32 × Hp) => r.2)) out) := by
  unfold b_X8_isA_9 at H
  have F := FW.refl W s
  obtain ⟨r3, hr3, H⟩ := bind_some H
  have F := F.trans (fr_X8_is (sub_L hL (by decide)) 38 s _ hr3)
  rcases ite_e H with ⟨-, H⟩ | ⟨-, H⟩
  · obtain rfl := Option.some.inj H
    exact F
  · obtain ⟨r5, hr5, H⟩ := bind_some H
    have F := F.trans (hR _ _ _ _ hr5)
    rcases ite_e H with ⟨-, H⟩ | ⟨-, H⟩
    · obtain rfl := Option.some.inj H
      exact F
    · obtain ⟨r7, hr7, H⟩ := bind_some H
      have F := F.trans (fr_X8_codes (sub_L hL (by decide)) 7 r5.2 _ hr7)
      obtain rfl := Option.some.inj H
      exact F
theorem fm_X8_isA {W : Nat → Bool} (hL : ∀ c ∈ L_GE, W c = true) {R : Nat → List Int32 → Hp → Option (Int32 × Hp)} (hR : ∀ k as h r, R k as h = some r → FW W h r.2) (h : Hp) (out : (Int32 × Hp)) (H : m_X8_isA R h = some out) : FW W h out.2 := by
  unfold m_X8_isA at H
  have F := FW.refl W h
  obtain ⟨r1, hr1, H⟩ := bind_some H
  have F := F.trans (hR _ _ _ _ hr1)
  rcases ite_e H with ⟨-, H⟩ | ⟨-, H⟩
  · obtain rfl := Option.some.inj H
    exact F
  · obtain ⟨a8o, ha8, hca8⟩ := it_R H
    have F := F.trans (iter_F (hs := (fun s : Hp => s)) (ha := (Sum.elim (fun s : Hp => s) (fun r : (Int32 × Hp) => r.2))) (fun s9 o9 ho9 => fb_X8_isA_9 hL hR s9 o9 ho9) _ r1.2 _ ha8)
    rcases hca8 with ⟨a8, rfl, H⟩ | ⟨r, rfl, H⟩
    · obtain rfl := Option.some.inj H
      exact F
    · obtain rfl := Option.some.inj H
      exact F
theorem fj_X8_isB_52 {W : Nat → Bool} (hL : ∀ c ∈ L_GE, W c = true) {R : Nat → List Int32 → Hp → Option (Int32 × Hp)} (hR : ∀ k as h r, R k as h = some r → FW W h r.2) (t0 : Int32) (h : Hp) (out : (Int32 × Hp)) (H : j_X8_isB_52 R t0 h = some out) : FW W h out.2 := by
  unfold j_X8_isB_52 at H
  have F := FW.refl W h
  rcases ite_e H with ⟨-, H⟩ | ⟨-, H⟩
  · obtain ⟨h10, eh10, H⟩ := lt_e H
    have F := F.st (fun q9 => (hL 53 (by decide))) eh10
    obtain ⟨r11, hr11, H⟩ := bind_some H
    have F := F.trans (hR _ _ _ _ hr11)
    rcases ite_e H with ⟨-, H⟩ | ⟨-, H⟩
    · obtain rfl := Option.some.inj H
      exact F
    · obtain ⟨r13, hr13, H⟩ := bind_some H
      have F := F.trans (fr_X8_codes (sub_L hL (by decide)) t0 r11.2 _ hr13)
      rcases ite_e H with ⟨-, H⟩ | ⟨-, H⟩
      · obtain rfl := Option.some.inj H
        exact F
      · obtain rfl := Option.some.inj H
        exact F
  · obtain rfl := Option.some.inj H
    exact F
theorem fm_X8_isB {W : Nat → Bool} (hL : ∀ c ∈ L_GE, W c = true) {R : Nat → List Int32 → Hp → Option (Int32 × Hp)} (hR : ∀ k as h r, R k as h = some r → FW W h r.2) (h : Hp) (out : (Int32 × Hp)) (H : m_X8_isB R h = some out) : FW W h out.2 := by
  unfold m_X8_isB at H
  have F := FW.refl W h
  obtain ⟨r1, hr1, H⟩ := bind_some H
  have F := F.trans (hR _ _ _ _ hr1)
  rcases ite_e H with ⟨-, H⟩ | ⟨-, H⟩
  · obtain rfl := Option.some.inj H
    exact F
  · obtain ⟨r3, hr3, H⟩ := bind_some H
    rcases ite_e H with ⟨-, H⟩ | ⟨-, H⟩
    · exact F.trans (fj_X8_isB_52 hL hR 8 r1.2 _ H)
    · obtain ⟨r5, hr5, H⟩ := bind_some H
      rcases ite_e H with ⟨-, H⟩ | ⟨-, H⟩
      · exact F.trans (fj_X8_isB_52 hL hR 9 r1.2 _ H)
      · obtain ⟨r7, hr7, H⟩ := bind_some H
        rcases ite_e H with ⟨-, H⟩ | ⟨-, H⟩
        · exact F.trans (fj_X8_isB_52 hL hR 10 r1.2 _ H)
        · exact F.trans (fj_X8_isB_52 hL hR (-1) r1.2 _ H)
theorem fj_X8_isS_38 {W : Nat → Bool} (hL : ∀ c ∈ L_GE, W c = true) {R : Nat → List Int32 → Hp → Option (Int32 × Hp)} (hR : ∀ k as h r, R k as h = some r → FW W h r.2) (t0 : Int32) (h : Hp) (out : Hp ⊕ (Int32 × Hp)) (H : j_X8_isS_38 R t0 h = some out) : FW W h (Sum.elim (fun s : Hp => s) (fun r : (Int32 × Hp) => r.2) out) := by
  unfold j_X8_isS_38 at H
  have F := FW.refl W h
  rcases ite_e H with ⟨-, H⟩ | ⟨-, H⟩
  · obtain ⟨h8, eh8, H⟩ := lt_e H
    have F := F.st (fun q9 => (hL 53 (by decide))) eh8
    obtain ⟨r9, hr9, H⟩ := bind_some H
    have F := F.trans (hR _ _ _ _ hr9)
    rcases ite_e H with ⟨-, H⟩ | ⟨-, H⟩
    · obtain rfl := Option.some.inj H
      exact F
    · obtain ⟨r11, hr11, H⟩ := bind_some H
      have F := F.trans (fr_X8_codes (sub_L hL (by decide)) t0 r9.2 _ hr11)
      obtain rfl := Option.some.inj H
      exact F
  · obtain rfl := Option.some.inj H
    exact F
theorem fb_X8_isS_9 {W : Nat → Bool} (hL : ∀ c ∈ L_GE, W c = true) {R : Nat → List Int32 → Hp → Option (Int32 × Hp)} (hR : ∀ k as h r, R k as h = some r → FW W h r.2) (s : Hp) (out : Hp ⊕ (Int32 × Hp)) (H : b_X8_isS_9 R s = some out) : FW W ((fun s : Hp => s) s) (Sum.elim (fun s : Hp => s) (fun r : (Int32 × Hp) => r.2) out) := by
  unfold b_X8_isS_9 at H
  have F := FW.refl W s
  obtain ⟨r3, hr3, H⟩ := bind_some H
  rcases ite_e H with ⟨-, H⟩ | ⟨-, H⟩
  · exact F.trans (fj_X8_isS_38 hL hR 11 s _ H)
  · obtain ⟨r5, hr5, H⟩ := bind_some H
    rcases ite_e H with ⟨-, H⟩ | ⟨-, H⟩
    · exact F.trans (fj_X8_isS_38 hL hR 12 s _ H)
    · exact F.trans (fj_X8_isS_38 hL hR (-1) s _ H)
theorem fm_X8_isS {W : Nat → Bool} (hL : ∀ c ∈ L_GE, W c = true) {R : Nat → List Int32 → Hp → Option (Int32 × Hp)} (hR : ∀ k as h r, R k as h = some r → FW W h r.2) (h : Hp) (out : (Int32 × Hp)) (H : m_X8_isS R h = some out) : FW W h out.2 := by
  unfold m_X8_isS at H
  have F := FW.refl W h
  obtain ⟨r1, hr1, H⟩ := bind_some H
  have F := F.trans (hR _ _ _ _ hr1)
  rcases ite_e H with ⟨-, H⟩ | ⟨-, H⟩
  · obtain rfl := Option.some.inj H
    exact F
  · obtain ⟨a12, ha12, H⟩ := bind_some H
    have F := F.trans (iter_F (hs := (fun s : Hp => s)) (ha := (fun r : (Int32 × Hp) => r.2)) (fun s9 o9 ho9 => fb_X8_isS_9 hL hR s9 o9 ho9) _ r1.2 _ ha12)
    obtain rfl := Option.some.inj H
    exact F
theorem fj_X8_isP_52 {W : Nat → Bool} (hL : ∀ c ∈ L_GE, W c = true) {R : Nat → List Int32 → Hp → Option (Int32 × Hp)} (hR : ∀ k as h r, R k as h = some r → FW W h r.2) (t0 : Int32) (h : Hp) (out : Hp ⊕ (Int32 × Hp)) (H : j_X8_isP_52 R t0 h = some out) : FW W h (Sum.elim (fun s : Hp => s) (fun r : (Int32 × Hp) => r.2) out) := by
  unfold j_X8_isP_52 at H
  have F := FW.refl W h
  rcases ite_e H with ⟨-, H⟩ | ⟨-, H⟩
  · obtain ⟨h10, eh10, H⟩ := lt_e H
    have F := F.st (fun q9 => (hL 53 (by decide))) eh10
    obtain ⟨r11, hr11, H⟩ := bind_some H
    have F := F.trans (hR _ _ _ _ hr11)
    rcases ite_e H with ⟨-, H⟩ | ⟨-, H⟩
    · obtain rfl := Option.some.inj H
      exact F
    · obtain ⟨r13, hr13, H⟩ := bind_some H
      have F := F.trans (fr_X8_codes (sub_L hL (by decide)) t0 r11.2 _ hr13)
      obtain rfl := Option.some.inj H
      exact F
  · obtain rfl := Option.some.inj H
    exact F
theorem fb_X8_isP_9 {W : Nat → Bool} (hL : ∀ c ∈ L_GE, W c = true) {R : Nat → List Int32 → Hp → Option (Int32 × Hp)} (hR : ∀ k as h r, R k as h = some r → FW W h r.2) (s : Hp) (out : Hp ⊕ (Int32 × Hp)) (H : b_X8_isP_9 R s = some out) : FW W ((fun s : Hp => s) s) (Sum.elim (fun s : Hp => s) (fun r : (Int32 × Hp) => r.2) out) := by
  unfold b_X8_isP_9 at H
  have F := FW.refl W s
  obtain ⟨r3, hr3, H⟩ := bind_some H
  rcases ite_e H with ⟨-, H⟩ | ⟨-, H⟩
  · exact F.trans (fj_X8_isP_52 hL hR 13 s _ H)
  · obtain ⟨r5, hr5, H⟩ := bind_some H
    rcases ite_e H with ⟨-, H⟩ | ⟨-, H⟩
    · exact F.trans (fj_X8_isP_52 hL hR 14 s _ H)
    · obtain ⟨r7, hr7, H⟩ := bind_some H
      rcases ite_e H with ⟨-, H⟩ | ⟨-, H⟩
      · exact F.trans (fj_X8_isP_52 hL hR 15 s _ H)
      · exact F.trans (fj_X8_isP_52 hL hR (-1) s _ H)
theorem fm_X8_isP {W : Nat → Bool} (hL : ∀ c ∈ L_GE, W c = true) {R : Nat → List Int32 → Hp → Option (Int32 × Hp)} (hR : ∀ k as h r, R k as h = some r → FW W h r.2) (h : Hp) (out : (Int32 × Hp)) (H : m_X8_isP R h = some out) : FW W h out.2 := by
  unfold m_X8_isP at H
  have F := FW.refl W h
  obtain ⟨r1, hr1, H⟩ := bind_some H
  have F := F.trans (hR _ _ _ _ hr1)
  rcases ite_e H with ⟨-, H⟩ | ⟨-, H⟩
  · obtain rfl := Option.some.inj H
    exact F
  · obtain ⟨a14, ha14, H⟩ := bind_some H
    have F := F.trans (iter_F (hs := (fun s : Hp => s)) (ha := (fun r : (Int32 × Hp) => r.2)) (fun s9 o9 ho9 => fb_X8_isP_9 hL hR s9 o9 ho9) _ r1.2 _ ha14)
    obtain rfl := Option.some.inj H
    exact F
theorem fb_X8_isO_11 {W : Nat → Bool} (hL : ∀ c ∈ L_GE, W c = true) {R : Nat → List Int32 → Hp → Option (Int32 × Hp)} (hR : ∀ k as h r, R k as h = some r → FW W h r.2) (s : (Int32 × Int32 × Hp)) (out : (Int32 × Int32 × Hp) ⊕ (Int32 × Int32 × Hp)) (H : b_X8_isO_11 R s = some out) : FW W ((fun s : (Int32 × Int32 × Hp) => s.2.2) s) (Sum.elim (fun s : (Int32 × Int32 × Hp) => s.2.2) (fun s : (Int32 × Int32 × Hp) => s.2.2) out) := by
  unfold b_X8_isO_11 at H
  have F := FW.refl W s.2.2
  rcases ite_e H with ⟨-, H⟩ | ⟨-, H⟩
  · obtain rfl := Option.some.inj H
    exact F
  · obtain ⟨r39, hr39, H⟩ := bind_some H
    rcases ite_e H with ⟨-, H⟩ | ⟨-, H⟩
    · obtain rfl := Option.some.inj H
      exact F
    · obtain ⟨v41, -, H⟩ := bind_some H
      obtain ⟨h42, eh42, H⟩ := lt_e H
      have F := F.st (fun q9 => (hL 53 (by decide))) eh42
      obtain rfl := Option.some.inj H
      exact F
theorem fm_X8_isO {W : Nat → Bool} (hL : ∀ c ∈ L_GE, W c = true) {R : Nat → List Int32 → Hp → Option (Int32 × Hp)} (hR : ∀ k as h r, R k as h = some r → FW W h r.2) (h : Hp) (out : (Int32 × Hp)) (H : m_X8_isO R h = some out) : FW W h out.2 := by
  unfold m_X8_isO at H
  have F := FW.refl W h
  obtain ⟨r1, hr1, H⟩ := bind_some H
  rcases ite_e H with ⟨-, H⟩ | ⟨-, H⟩
  · obtain ⟨r3, hr3, H⟩ := bind_some H
    obtain ⟨r4, hr4, H⟩ := bind_some H
    rcases ite_e H with ⟨-, H⟩ | ⟨-, H⟩
    · rcases ite_e H with ⟨-, H⟩ | ⟨-, H⟩
      · obtain rfl := Option.some.inj H
        exact F
      · obtain ⟨h7, eh7, H⟩ := lt_e H
        have F := F.st (fun q9 => (hL 53 (by decide))) eh7
        obtain ⟨r8, hr8, H⟩ := bind_some H
        have F := F.trans (fr_X8_is (sub_L hL (by decide)) 33 h7 _ hr8)
        rcases ite_e H with ⟨-, H⟩ | ⟨-, H⟩
        · obtain ⟨r10, hr10, H⟩ := bind_some H
          have F := F.trans (fr_X8_is (sub_L hL (by decide)) 45 r8.2 _ hr10)
          rcases ite_e H with ⟨-, H⟩ | ⟨-, H⟩
          · obtain ⟨r12, hr12, H⟩ := bind_some H
            have F := F.trans (fr_X8_is (sub_L hL (by decide)) 40 r10.2 _ hr12)
            rcases ite_e H with ⟨-, H⟩ | ⟨-, H⟩
            · obtain ⟨h14, eh14, H⟩ := lt_e H
              have F := F.st (fun q9 => (hL 53 (by decide))) eh14
              obtain rfl := Option.some.inj H
              exact F
            · obtain ⟨r15, hr15, H⟩ := bind_some H
              have F := F.trans (hR _ _ _ _ hr15)
              rcases ite_e H with ⟨-, H⟩ | ⟨-, H⟩
              · obtain ⟨h17, eh17, H⟩ := lt_e H
                have F := F.st (fun q9 => (hL 53 (by decide))) eh17
                obtain rfl := Option.some.inj H
                exact F
              · obtain ⟨r18, hr18, H⟩ := bind_some H
                have F := F.trans (fr_X8_is (sub_L hL (by decide)) 41 r15.2 _ hr18)
                rcases ite_e H with ⟨-, H⟩ | ⟨-, H⟩
                · obtain ⟨h20, eh20, H⟩ := lt_e H
                  have F := F.st (fun q9 => (hL 53 (by decide))) eh20
                  obtain rfl := Option.some.inj H
                  exact F
                · obtain ⟨h21, eh21, H⟩ := lt_e H
                  have F := F.st (fun q9 => (hL 53 (by decide))) eh21
                  obtain rfl := Option.some.inj H
                  exact F
          · obtain ⟨r22, hr22, H⟩ := bind_some H
            have F := F.trans (hR _ _ _ _ hr22)
            rcases ite_e H with ⟨-, H⟩ | ⟨-, H⟩
            · obtain ⟨h24, eh24, H⟩ := lt_e H
              have F := F.st (fun q9 => (hL 53 (by decide))) eh24
              obtain rfl := Option.some.inj H
              exact F
            · obtain ⟨r25, hr25, H⟩ := bind_some H
              have F := F.trans (fr_X8_codes (sub_L hL (by decide)) 17 r22.2 _ hr25)
              rcases ite_e H with ⟨-, H⟩ | ⟨-, H⟩
              · obtain ⟨h27, eh27, H⟩ := lt_e H
                have F := F.st (fun q9 => (hL 53 (by decide))) eh27
                obtain rfl := Option.some.inj H
                exact F
              · obtain ⟨h28, eh28, H⟩ := lt_e H
                have F := F.st (fun q9 => (hL 53 (by decide))) eh28
                obtain rfl := Option.some.inj H
                exact F
        · obtain ⟨r29, hr29, H⟩ := bind_some H
          have F := F.trans (hR _ _ _ _ hr29)
          rcases ite_e H with ⟨-, H⟩ | ⟨-, H⟩
          · obtain ⟨h31, eh31, H⟩ := lt_e H
            have F := F.st (fun q9 => (hL 53 (by decide))) eh31
            obtain rfl := Option.some.inj H
            exact F
          · obtain ⟨r32, hr32, H⟩ := bind_some H
            have F := F.trans (fr_X8_codes (sub_L hL (by decide)) 16 r29.2 _ hr32)
            rcases ite_e H with ⟨-, H⟩ | ⟨-, H⟩
            · obtain ⟨h34, eh34, H⟩ := lt_e H
              have F := F.st (fun q9 => (hL 53 (by decide))) eh34
              obtain rfl := Option.some.inj H
              exact F
            · obtain ⟨h35, eh35, H⟩ := lt_e H
              have F := F.st (fun q9 => (hL 53 (by decide))) eh35
              obtain rfl := Option.some.inj H
              exact F
    · obtain ⟨h36, eh36, H⟩ := lt_e H
      have F := F.st (fun q9 => (hL 53 (by decide))) eh36
      obtain ⟨r37, hr37, H⟩ := bind_some H
      have F := F.trans (fr_X8_codes (sub_L hL (by decide)) r4 h36 _ hr37)
      obtain rfl := Option.some.inj H
      exact F
  · obtain ⟨a43, ha43, H⟩ := bind_some H
    have F := F.trans (iter_F (hs := (fun s : (Int32 × Int32 × Hp) => s.2.2)) (ha := (fun s : (Int32 × Int32 × Hp) => s.2.2)) (fun s9 o9 ho9 => fb_X8_isO_11 hL hR s9 o9 ho9) _ (0, 0, h) _ ha43)
    obtain ⟨r44, hr44, H⟩ := bind_some H
    have F := F.trans (fr_X8_codes (sub_L hL (by decide)) (18 + a43.1) a43.2.2 _ hr44)
    obtain rfl := Option.some.inj H
    exact F
theorem frG_GE {W : Nat → Bool} (hL : ∀ c ∈ L_GE, W c = true) : ∀ (n k : Nat) (as : List Int32) (h : Hp) (r : Int32 × Hp), fG_GE n k as h = some r → FW W h r.2 := by
  intro n
  induction n with
  | zero => intro k as h r H; cases H
  | succ n ih =>
    intro k as h r H
    unfold fG_GE at H
    split at H
    · exact fm_X8_isE hL ih  h r H
    · exact fm_X8_isA hL ih  h r H
    · exact fm_X8_isB hL ih  h r H
    · exact fm_X8_isS hL ih  h r H
    · exact fm_X8_isP hL ih  h r H
    · exact fm_X8_isO hL ih  h r H
    · cases H
def L_X8_isE : List Nat := L_GE
theorem fr_X8_isE {W : Nat → Bool} (hL : ∀ c ∈ L_GE, W c = true) (h : Hp) (r : Int32 × Hp) (H : f_X8_isE  h = some r) : FW W h r.2 := frG_GE hL 100 0 [] h r H
def L_X8_isA : List Nat := L_GE
theorem fr_X8_isA {W : Nat → Bool} (hL : ∀ c ∈ L_GE, W c = true) (h : Hp) (r : Int32 × Hp) (H : f_X8_isA  h = some r) : FW W h r.2 := frG_GE hL 100 1 [] h r H
def L_X8_isB : List Nat := L_GE
theorem fr_X8_isB {W : Nat → Bool} (hL : ∀ c ∈ L_GE, W c = true) (h : Hp) (r : Int32 × Hp) (H : f_X8_isB  h = some r) : FW W h r.2 := frG_GE hL 100 2 [] h r H
def L_X8_isS : List Nat := L_GE
theorem fr_X8_isS {W : Nat → Bool} (hL : ∀ c ∈ L_GE, W c = true) (h : Hp) (r : Int32 × Hp) (H : f_X8_isS  h = some r) : FW W h r.2 := frG_GE hL 100 3 [] h r H
def L_X8_isP : List Nat := L_GE
theorem fr_X8_isP {W : Nat → Bool} (hL : ∀ c ∈ L_GE, W c = true) (h : Hp) (r : Int32 × Hp) (H : f_X8_isP  h = some r) : FW W h r.2 := frG_GE hL 100 4 [] h r H
def L_X8_isO : List Nat := L_GE
theorem fr_X8_isO {W : Nat → Bool} (hL : ∀ c ∈ L_GE, W c = true) (h : Hp) (r : Int32 × Hp) (H : f_X8_isO  h = some r) : FW W h r.2 := frG_GE hL 100 5 [] h r H
def L_GR : List Nat := [7, 9, 10]
theorem fb_X4_readRank_26 {W : Nat → Bool} (hL : ∀ c ∈ L_GR, W c = true) {R : Nat → List Int32 → Hp → Option (Int32 × Hp)} (hR : ∀ k as h r, R k as h = some r → FW W h r.2) (a1 : Int32) (a2 : Int32) (s : (Int32 × Hp)) (out : (Int32 × Hp) ⊕ ((Int32 × Hp) ⊕ (Int32 × Hp))) (H : b_X4_readRank_26 R a1 a2 s = some out) : FW W ((fun s : (Int32 × Hp) => s.2) s) (Sum.elim (fun s : (Int32 × Hp) => s.2) (Sum.elim (fun s : (Int32 × Hp) => s.2) (fun r : (Int32 × Hp) => r.2)) out) := by
  unfold b_X4_readRank_26 at H
  have F := FW.refl W s.2
  rcases ite_e H with ⟨-, H⟩ | ⟨-, H⟩
  · obtain rfl := Option.some.inj H
    exact F
  · obtain ⟨r5, hr5, H⟩ := bind_some H
    obtain ⟨r6, hr6, H⟩ := bind_some H
    rcases ite_e H with ⟨-, H⟩ | ⟨-, H⟩
    · obtain ⟨h8, eh8, H⟩ := lt_e H
      have F := F.st (fun q9 => (hL 7 (by decide))) eh8
      obtain ⟨r9, hr9, H⟩ := bind_some H
      have F := F.trans (hR _ _ _ _ hr9)
      rcases ite_e H with ⟨-, H⟩ | ⟨-, H⟩
      · obtain rfl := Option.some.inj H
        exact F
      · obtain ⟨r11, hr11, H⟩ := bind_some H
        have F := F.trans (fr_X4_emit (sub_L hL (by decide)) (-r5) r9.2 _ hr11)
        rcases ite_e H with ⟨-, H⟩ | ⟨-, H⟩
        · obtain rfl := Option.some.inj H
          exact F
        · obtain rfl := Option.some.inj H
          exact F
    · obtain rfl := Option.some.inj H
      exact F
theorem fm_X4_readRank {W : Nat → Bool} (hL : ∀ c ∈ L_GR, W c = true) {R : Nat → List Int32 → Hp → Option (Int32 × Hp)} (hR : ∀ k as h r, R k as h = some r → FW W h r.2) (a1 : Int32) (a2 : Int32) (h : Hp) (out : (Int32 × Hp)) (H : m_X4_readRank R a1 a2 h = some out) : FW W h out.2 := by
  unfold m_X4_readRank at H
  have F := FW.refl W h
  rcases ite_e H with ⟨-, H⟩ | ⟨-, H⟩
  · obtain ⟨r2, hr2, H⟩ := bind_some H
    have F := F.trans (hR _ _ _ _ hr2)
    rcases ite_e H with ⟨-, H⟩ | ⟨-, H⟩
    · obtain rfl := Option.some.inj H
      exact F
    · obtain ⟨a13o, ha13, hca13⟩ := it_R H
      have F := F.trans (iter_F (hs := (fun s : (Int32 × Hp) => s.2)) (ha := (Sum.elim (fun s : (Int32 × Hp) => s.2) (fun r : (Int32 × Hp) => r.2))) (fun s9 o9 ho9 => fb_X4_readRank_26 hL hR a1 a2 s9 o9 ho9) _ (0, r2.2) _ ha13)
      rcases hca13 with ⟨a13, rfl, H⟩ | ⟨r, rfl, H⟩
      · obtain rfl := Option.some.inj H
        exact F
      · obtain rfl := Option.some.inj H
        exact F
  · obtain ⟨r14, hr14, H⟩ := bind_some H
    have F := F.trans (hR _ _ _ _ hr14)
    obtain rfl := Option.some.inj H
    exact F
theorem fj_X4_readOperand_65 {W : Nat → Bool} (hL : ∀ c ∈ L_GR, W c = true) {R : Nat → List Int32 → Hp → Option (Int32 × Hp)} (hR : ∀ k as h r, R k as h = some r → FW W h r.2) (a1 : Int32) (a2 : Int32) (h : Hp) (out : (Int32 × Hp)) (H : j_X4_readOperand_65 R a1 a2 h = some out) : FW W h out.2 := by
  unfold j_X4_readOperand_65 at H
  have F := FW.refl W h
  rcases ite_e H with ⟨-, H⟩ | ⟨-, H⟩
  · obtain ⟨h8, eh8, H⟩ := lt_e H
    have F := F.st (fun q9 => (hL 7 (by decide))) eh8
    rcases ite_e H with ⟨-, H⟩ | ⟨-, H⟩
    · obtain ⟨r15, hr15, H⟩ := bind_some H
      have F := F.trans (hR _ _ _ _ hr15)
      obtain rfl := Option.some.inj H
      exact F
    · obtain ⟨r10, hr10, H⟩ := bind_some H
      have F := F.trans (hR _ _ _ _ hr10)
      rcases ite_e H with ⟨-, H⟩ | ⟨-, H⟩
      · obtain rfl := Option.some.inj H
        exact F
      · rcases ite_e H with ⟨-, H⟩ | ⟨-, H⟩
        · obtain ⟨r14, hr14, H⟩ := bind_some H
          have F := F.trans (fr_X4_emit (sub_L hL (by decide)) (-33) r10.2 _ hr14)
          obtain rfl := Option.some.inj H
          exact F
        · obtain ⟨r13, hr13, H⟩ := bind_some H
          have F := F.trans (fr_X4_emit (sub_L hL (by decide)) (-126) r10.2 _ hr13)
          obtain rfl := Option.some.inj H
          exact F
  · obtain rfl := Option.some.inj H
    exact F
theorem fm_X4_readOperand {W : Nat → Bool} (hL : ∀ c ∈ L_GR, W c = true) {R : Nat → List Int32 → Hp → Option (Int32 × Hp)} (hR : ∀ k as h r, R k as h = some r → FW W h r.2) (a1 : Int32) (h : Hp) (out : (Int32 × Hp)) (H : m_X4_readOperand R a1 h = some out) : FW W h out.2 := by
  unfold m_X4_readOperand at H
  have F := FW.refl W h
  obtain ⟨r1, hr1, H⟩ := bind_some H
  obtain ⟨r2, hr2, H⟩ := bind_some H
  rcases ite_e H with ⟨-, H⟩ | ⟨-, H⟩
  · obtain ⟨r4, hr4, H⟩ := bind_some H
    rcases ite_e H with ⟨-, H⟩ | ⟨-, H⟩
    · rcases ite_e H with ⟨-, H⟩ | ⟨-, H⟩
      · exact F.trans (fj_X4_readOperand_65 hL hR a1 r1 h _ H)
      · rcases ite_e H with ⟨-, H⟩ | ⟨-, H⟩
        · exact F.trans (fj_X4_readOperand_65 hL hR a1 r1 h _ H)
        · rcases ite_e H with ⟨-, H⟩ | ⟨-, H⟩
          · exact F.trans (fj_X4_readOperand_65 hL hR a1 r1 h _ H)
          · obtain rfl := Option.some.inj H
            exact F
    · obtain ⟨h18, eh18, H⟩ := lt_e H
      have F := F.st (fun q9 => (hL 7 (by decide))) eh18
      obtain ⟨r19, hr19, H⟩ := bind_some H
      have F := F.trans (fr_X4_emit (sub_L hL (by decide)) (10000 + r4) h18 _ hr19)
      obtain rfl := Option.some.inj H
      exact F
  · obtain ⟨r20, hr20, H⟩ := bind_some H
    have F := F.trans (fr_X4_readNumber (sub_L hL (by decide)) h _ hr20)
    obtain rfl := Option.some.inj H
    exact F
theorem fm_X4_readClosed {W : Nat → Bool} (hL : ∀ c ∈ L_GR, W c = true) {R : Nat → List Int32 → Hp → Option (Int32 × Hp)} (hR : ∀ k as h r, R k as h = some r → FW W h r.2) (a1 : Int32) (h : Hp) (out : (Int32 × Hp)) (H : m_X4_readClosed R a1 h = some out) : FW W h out.2 := by
  unfold m_X4_readClosed at H
  have F := FW.refl W h
  obtain ⟨r1, hr1, H⟩ := bind_some H
  have F := F.trans (hR _ _ _ _ hr1)
  rcases ite_e H with ⟨-, H⟩ | ⟨-, H⟩
  · obtain rfl := Option.some.inj H
    exact F
  · obtain ⟨r3, hr3, H⟩ := bind_some H
    rcases ite_e H with ⟨-, H⟩ | ⟨-, H⟩
    · obtain ⟨h5, eh5, H⟩ := lt_e H
      have F := F.st (fun q9 => (hL 7 (by decide))) eh5
      obtain rfl := Option.some.inj H
      exact F
    · obtain rfl := Option.some.inj H
      exact F
theorem frG_GR {W : Nat → Bool} (hL : ∀ c ∈ L_GR, W c = true) : ∀ (n k : Nat) (as : List Int32) (h : Hp) (r : Int32 × Hp), fG_GR n k as h = some r → FW W h r.2 := by
  intro n
  induction n with
  | zero => intro k as h r H; cases H
  | succ n ih =>
    intro k as h r H
    unfold fG_GR at H
    split at H
    · exact fm_X4_readRank hL ih _ _ h r H
    · exact fm_X4_readOperand hL ih _ h r H
    · exact fm_X4_readClosed hL ih _ h r H
    · cases H
def L_X4_readRank : List Nat := L_GR
theorem fr_X4_readRank {W : Nat → Bool} (hL : ∀ c ∈ L_GR, W c = true) (a1 : Int32) (a2 : Int32) (h : Hp) (r : Int32 × Hp) (H : f_X4_readRank a1 a2 h = some r) : FW W h r.2 := frG_GR hL 100 0 [a1, a2] h r H
def L_X4_readOperand : List Nat := L_GR
theorem fr_X4_readOperand {W : Nat → Bool} (hL : ∀ c ∈ L_GR, W c = true) (a1 : Int32) (h : Hp) (r : Int32 × Hp) (H : f_X4_readOperand a1 h = some r) : FW W h r.2 := frG_GR hL 100 1 [a1] h r H
def L_X4_readClosed : List Nat := L_GR
theorem fr_X4_readClosed {W : Nat → Bool} (hL : ∀ c ∈ L_GR, W c = true) (a1 : Int32) (h : Hp) (r : Int32 × Hp) (H : f_X4_readClosed a1 h = some r) : FW W h r.2 := frG_GR hL 100 2 [a1] h r H
def L_X4_readLine : List Nat := [7, 9, 10]
theorem fr_X4_readLine {W : Nat → Bool} (hL : ∀ c ∈ L_X4_readLine, W c = true) (h : Hp) (out : (Int32 × Hp)) (H : f_X4_readLine h = some out) : FW W h out.2 := by
  unfold f_X4_readLine at H
  have F := FW.refl W h
  obtain ⟨r1, hr1, H⟩ := bind_some H
  have F := F.trans (fr_X4_readRank (sub_L hL (by decide)) 0 0 h _ hr1)
  rcases ite_e H with ⟨-, H⟩ | ⟨-, H⟩
  · obtain rfl := Option.some.inj H
    exact F
  · obtain ⟨r3, hr3, H⟩ := bind_some H
    rcases ite_e H with ⟨-, H⟩ | ⟨-, H⟩
    · obtain ⟨h5, eh5, H⟩ := lt_e H
      have F := F.st (fun q9 => (hL 7 (by decide))) eh5
      obtain ⟨r6, hr6, H⟩ := bind_some H
      have F := F.trans (fr_X4_emit (sub_L hL (by decide)) (-63) h5 _ hr6)
      obtain ⟨r7, hr7, H⟩ := bind_some H
      have F := F.trans (fr_X4_readRank (sub_L hL (by decide)) 0 0 r6 _ hr7)
      obtain rfl := Option.some.inj H
      exact F
    · obtain rfl := Option.some.inj H
      exact F
def L_X8_isLine : List Nat := [53, 67, 68, 69, 70]
theorem fj_X8_isLine_71 {W : Nat → Bool} (hL : ∀ c ∈ L_X8_isLine, W c = true) (h : Hp) (out : (Int32 × Hp)) (H : j_X8_isLine_71 h = some out) : FW W h out.2 := by
  unfold j_X8_isLine_71 at H
  have F := FW.refl W h
  obtain ⟨h8, eh8, H⟩ := lt_e H
  have F := F.st (fun q9 => (hL 53 (by decide))) eh8
  obtain ⟨h9, eh9, H⟩ := bind_some H
  have F := F.wri (fun q9 => (hL 69 (by decide))) eh9
  obtain rfl := Option.some.inj H
  exact F
theorem fr_X8_isLine {W : Nat → Bool} (hL : ∀ c ∈ L_X8_isLine, W c = true) (h : Hp) (out : (Int32 × Hp)) (H : f_X8_isLine h = some out) : FW W h out.2 := by
  unfold f_X8_isLine at H
  have F := FW.refl W h
  obtain ⟨h1, eh1, H⟩ := bind_some H
  have F := F.wri (fun q9 => (hL 67 (by decide))) eh1
  obtain ⟨r2, hr2, H⟩ := bind_some H
  have F := F.trans (fr_X8_isE (sub_L hL (by decide)) h1 _ hr2)
  rcases ite_e H with ⟨-, H⟩ | ⟨-, H⟩
  · obtain rfl := Option.some.inj H
    exact F
  · obtain ⟨v4, -, H⟩ := bind_some H
    obtain ⟨h5, eh5, H⟩ := bind_some H
    have F := F.wri (fun q9 => (hL 68 (by decide))) eh5
    obtain ⟨r6, hr6, H⟩ := bind_some H
    have F := F.trans (fr_X8_is (sub_L hL (by decide)) 63 h5 _ hr6)
    rcases ite_e H with ⟨-, H⟩ | ⟨-, H⟩
    · exact F.trans (fj_X8_isLine_71 hL r6.2 _ H)
    · obtain ⟨h10, eh10, H⟩ := bind_some H
      have F := F.wri (fun q9 => (hL 68 (by decide))) eh10
      obtain ⟨r11, hr11, H⟩ := bind_some H
      have F := F.trans (fr_X8_isE (sub_L hL (by decide)) h10 _ hr11)
      rcases ite_e H with ⟨-, H⟩ | ⟨-, H⟩
      · obtain rfl := Option.some.inj H
        exact F
      · exact F.trans (fj_X8_isLine_71 hL r11.2 _ H)
def L_X4_readLines : List Nat := [7, 9, 10]
theorem fb_X4_readLines_2 {W : Nat → Bool} (hL : ∀ c ∈ L_X4_readLines, W c = true) (s : (Int32 × Hp)) (out : (Int32 × Hp) ⊕ ((Int32 × Hp) ⊕ (Int32 × Hp))) (H : b_X4_readLines_2 s = some out) : FW W ((fun s : (Int32 × Hp) => s.2) s) (Sum.elim (fun s : (Int32 × Hp) => s.2) (Sum.elim (fun s : (Int32 × Hp) => s.2) (fun r : (Int32 × Hp) => r.2)) out) := by
  unfold b_X4_readLines_2 at H
  have F := FW.refl W s.2
  rcases ite_e H with ⟨-, H⟩ | ⟨-, H⟩
  · obtain rfl := Option.some.inj H
    exact F
  · obtain ⟨r2, hr2, H⟩ := bind_some H
    have F := F.trans (fr_X4_readLine (sub_L hL (by decide)) s.2 _ hr2)
    rcases ite_e H with ⟨-, H⟩ | ⟨-, H⟩
    · obtain rfl := Option.some.inj H
      exact F
    · obtain ⟨r4, hr4, H⟩ := bind_some H
      have F := F.trans (fr_X4_emit (sub_L hL (by decide)) (-59) r2.2 _ hr4)
      obtain ⟨r5, hr5, H⟩ := bind_some H
      rcases ite_e H with ⟨-, H⟩ | ⟨-, H⟩
      · obtain rfl := Option.some.inj H
        exact F
      · obtain ⟨r7, hr7, H⟩ := bind_some H
        rcases ite_e H with ⟨-, H⟩ | ⟨-, H⟩
        · obtain ⟨h9, eh9, H⟩ := lt_e H
          have F := F.st (fun q9 => (hL 7 (by decide))) eh9
          obtain rfl := Option.some.inj H
          exact F
        · obtain rfl := Option.some.inj H
          exact F
theorem fr_X4_readLines {W : Nat → Bool} (hL : ∀ c ∈ L_X4_readLines, W c = true) (h : Hp) (out : (Int32 × Hp)) (H : f_X4_readLines h = some out) : FW W h out.2 := by
  unfold f_X4_readLines at H
  have F := FW.refl W h
  obtain ⟨a10o, ha10, hca10⟩ := it_R H
  have F := F.trans (iter_F (hs := (fun s : (Int32 × Hp) => s.2)) (ha := (Sum.elim (fun s : (Int32 × Hp) => s.2) (fun r : (Int32 × Hp) => r.2))) (fun s9 o9 ho9 => fb_X4_readLines_2 hL s9 o9 ho9) _ (0, h) _ ha10)
  rcases hca10 with ⟨a10, rfl, H⟩ | ⟨r, rfl, H⟩
  · obtain rfl := Option.some.inj H
    exact F
  · obtain rfl := Option.some.inj H
    exact F
def L_X8_law : List Nat := [53, 63, 64, 65, 66, 67, 68, 69, 70]
theorem fb_X8_law_25 {W : Nat → Bool} (hL : ∀ c ∈ L_X8_law, W c = true) (s : (Int32 × Hp)) (out : (Int32 × Hp) ⊕ (Int32 × Hp)) (H : b_X8_law_25 s = some out) : FW W ((fun s : (Int32 × Hp) => s.2) s) (Sum.elim (fun s : (Int32 × Hp) => s.2) (fun s : (Int32 × Hp) => s.2) out) := by
  unfold b_X8_law_25 at H
  have F := FW.refl W s.2
  rcases ite_e H with ⟨-, H⟩ | ⟨-, H⟩
  · obtain rfl := Option.some.inj H
    exact F
  · obtain ⟨r7, hr7, H⟩ := bind_some H
    have F := F.trans (fr_X8_is (sub_L hL (by decide)) 59 s.2 _ hr7)
    rcases ite_e H with ⟨-, H⟩ | ⟨-, H⟩
    · obtain rfl := Option.some.inj H
      exact F
    · obtain ⟨r9, hr9, H⟩ := bind_some H
      have F := F.trans (fr_X8_isLine (sub_L hL (by decide)) r7.2 _ hr9)
      obtain rfl := Option.some.inj H
      exact F
theorem fb_X8_law_99 {W : Nat → Bool} (hL : ∀ c ∈ L_X8_law, W c = true) (s : (Int32 × Hp)) (out : (Int32 × Hp) ⊕ (Int32 × Hp)) (H : b_X8_law_99 s = some out) : FW W ((fun s : (Int32 × Hp) => s.2) s) (Sum.elim (fun s : (Int32 × Hp) => s.2) (fun s : (Int32 × Hp) => s.2) out) := by
  unfold b_X8_law_99 at H
  have F := FW.refl W s.2
  rcases ite_e H with ⟨-, H⟩ | ⟨-, H⟩
  · obtain rfl := Option.some.inj H
    exact F
  · obtain ⟨v17, -, H⟩ := bind_some H
    obtain ⟨h18, eh18, H⟩ := bind_some H
    have F := F.wri (fun q9 => (hL 63 (by decide))) eh18
    obtain ⟨v19, -, H⟩ := bind_some H
    obtain ⟨h20, eh20, H⟩ := bind_some H
    have F := F.wri (fun q9 => (hL 64 (by decide))) eh20
    obtain ⟨v21, -, H⟩ := bind_some H
    obtain ⟨h22, eh22, H⟩ := bind_some H
    have F := F.wri (fun q9 => (hL 65 (by decide))) eh22
    obtain rfl := Option.some.inj H
    exact F
theorem fb_X8_law_151 {W : Nat → Bool} (hL : ∀ c ∈ L_X8_law, W c = true) (s : (Int32 × Hp)) (out : (Int32 × Hp) ⊕ (Int32 × Hp)) (H : b_X8_law_151 s = some out) : FW W ((fun s : (Int32 × Hp) => s.2) s) (Sum.elim (fun s : (Int32 × Hp) => s.2) (fun s : (Int32 × Hp) => s.2) out) := by
  unfold b_X8_law_151 at H
  have F := FW.refl W s.2
  rcases ite_e H with ⟨-, H⟩ | ⟨-, H⟩
  · obtain rfl := Option.some.inj H
    exact F
  · obtain ⟨v25, -, H⟩ := bind_some H
    obtain ⟨h26, eh26, H⟩ := bind_some H
    have F := F.wri (fun q9 => (hL 66 (by decide))) eh26
    obtain rfl := Option.some.inj H
    exact F
theorem fj_X8_law_66 {W : Nat → Bool} (hL : ∀ c ∈ L_X8_law, W c = true) (t0 : Int32) (h : Hp) (out : (Int32 × Hp)) (H : j_X8_law_66 t0 h = some out) : FW W h out.2 := by
  unfold j_X8_law_66 at H
  have F := FW.refl W h
  obtain ⟨h12, eh12, H⟩ := lt_e H
  have F := F.st (fun q9 => (hL 53 (by decide))) eh12
  rcases ite_e H with ⟨-, H⟩ | ⟨-, H⟩
  · obtain rfl := Option.some.inj H
    exact F
  · obtain ⟨h14, eh14, H⟩ := lt_e H
    have F := F.st (fun q9 => (hL 53 (by decide))) eh14
    obtain ⟨h15, eh15, H⟩ := lt_e H
    have F := F.st (fun q9 => (hL 53 (by decide))) eh15
    obtain ⟨a23, ha23, H⟩ := bind_some H
    have F := F.trans (iter_F (hs := (fun s : (Int32 × Hp) => s.2)) (ha := (fun s : (Int32 × Hp) => s.2)) (fun s9 o9 ho9 => fb_X8_law_99 hL s9 o9 ho9) _ (0, h15) _ ha23)
    obtain ⟨a27, ha27, H⟩ := bind_some H
    have F := F.trans (iter_F (hs := (fun s : (Int32 × Hp) => s.2)) (ha := (fun s : (Int32 × Hp) => s.2)) (fun s9 o9 ho9 => fb_X8_law_151 hL s9 o9 ho9) _ (0, a23.2) _ ha27)
    obtain rfl := Option.some.inj H
    exact F
theorem fj_X8_law_65 {W : Nat → Bool} (hL : ∀ c ∈ L_X8_law, W c = true) (h : Hp) (out : (Int32 × Hp)) (H : j_X8_law_65 h = some out) : FW W h out.2 := by
  unfold j_X8_law_65 at H
  have F := FW.refl W h
  exact F.trans (fj_X8_law_66 hL 0 h _ H)
theorem fj_X8_law_46 {W : Nat → Bool} (hL : ∀ c ∈ L_X8_law, W c = true) (a1 : Int32) (h : Hp) (out : (Int32 × Hp)) (H : j_X8_law_46 a1 h = some out) : FW W h out.2 := by
  unfold j_X8_law_46 at H
  have F := FW.refl W h
  rcases ite_e H with ⟨-, H⟩ | ⟨-, H⟩
  · exact F.trans (fj_X8_law_65 hL h _ H)
  · rcases ite_e H with ⟨-, H⟩ | ⟨-, H⟩
    · exact F.trans (fj_X8_law_66 hL 1 h _ H)
    · exact F.trans (fj_X8_law_65 hL h _ H)
theorem fr_X8_law {W : Nat → Bool} (hL : ∀ c ∈ L_X8_law, W c = true) (h : Hp) (out : (Int32 × Hp)) (H : f_X8_law h = some out) : FW W h out.2 := by
  unfold f_X8_law at H
  have F := FW.refl W h
  obtain ⟨h1, eh1, H⟩ := lt_e H
  have F := F.st (fun q9 => (hL 53 (by decide))) eh1
  obtain ⟨h2, eh2, H⟩ := lt_e H
  have F := F.st (fun q9 => (hL 53 (by decide))) eh2
  obtain ⟨h3, eh3, H⟩ := lt_e H
  have F := F.st (fun q9 => (hL 53 (by decide))) eh3
  obtain ⟨h4, eh4, H⟩ := lt_e H
  have F := F.st (fun q9 => (hL 53 (by decide))) eh4
  obtain ⟨r5, hr5, H⟩ := bind_some H
  have F := F.trans (fr_X8_isLine (sub_L hL (by decide)) h4 _ hr5)
  obtain ⟨a10, ha10, H⟩ := bind_some H
  have F := F.trans (iter_F (hs := (fun s : (Int32 × Hp) => s.2)) (ha := (fun s : (Int32 × Hp) => s.2)) (fun s9 o9 ho9 => fb_X8_law_25 hL s9 o9 ho9) _ (r5.1, r5.2) _ ha10)
  exact F.trans (fj_X8_law_46 hL a10.1 a10.2 _ H)
def L_X4_enact : List Nat := [7, 9, 10]
theorem fr_X4_enact {W : Nat → Bool} (hL : ∀ c ∈ L_X4_enact, W c = true) (h : Hp) (out : (Int32 × Hp)) (H : f_X4_enact h = some out) : FW W h out.2 := by
  unfold f_X4_enact at H
  have F := FW.refl W h
  obtain ⟨h1, eh1, H⟩ := lt_e H
  have F := F.st (fun q9 => (hL 7 (by decide))) eh1
  have F_h1 := F
  obtain ⟨h2, eh2, H⟩ := lt_e H
  have F := F.st (fun q9 => (hL 7 (by decide))) eh2
  have F_h2 := F
  obtain ⟨r3, hr3, H⟩ := bind_some H
  have F := F.trans (fr_X4_readLines (sub_L hL (by decide)) h2 _ hr3)
  obtain ⟨h4, eh4, H⟩ := lt_e H
  have F := F.st (fun q9 => (hL 7 (by decide))) eh4
  have F_h4 := F
  rcases ite_e H with ⟨-, H⟩ | ⟨-, H⟩
  · obtain rfl := Option.some.inj H
    exact F
  · obtain ⟨h6, eh6, H⟩ := lt_e H
    have F := F.upr (fun q9 => (hL 7 (by decide))) (fun q9 => lrv4 (F_h4 q9).1) eh6
    have F_h6 := F
    obtain ⟨h7, eh7, H⟩ := lt_e H
    have F := F.st (fun q9 => (hL 7 (by decide))) eh7
    have F_h7 := F
    obtain ⟨h8, eh8, H⟩ := lt_e H
    have F := F.upr (fun q9 => (hL 7 (by decide))) (fun q9 => lrv2 (F_h4 q9).1) eh8
    have F_h8 := F
    obtain rfl := Option.some.inj H
    exact F
def L_X7_law : List Nat := [7, 9, 10]
theorem fr_X7_law {W : Nat → Bool} (hL : ∀ c ∈ L_X7_law, W c = true) (h : Hp) (out : (Int32 × Hp)) (H : f_X7_law h = some out) : FW W h out.2 := by
  unfold f_X7_law at H
  have F := FW.refl W h
  obtain ⟨r1, hr1, H⟩ := bind_some H
  have F := F.trans (fr_X4_enact (sub_L hL (by decide)) h _ hr1)
  obtain rfl := Option.some.inj H
  exact F
