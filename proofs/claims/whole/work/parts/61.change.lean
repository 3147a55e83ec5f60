/-! a number becomes another one, on both sides -/
def setFo (f : Fo) (n w v : Nat) : Fo := match w with
  | 1 => (foP f, foW f, upN (foH f) n v, foA f, foB f, foT f, foG f)
  | 2 => (foP f, foW f, foH f, upN (foA f) n v, foB f, foT f, foG f)
  | 3 => (foP f, foW f, foH f, foA f, foB f, foT f, upN (foG f) n v)
  | _ => f
def setSc (s : Sc) (n w v : Nat) : Sc := match w with
  | 0 => (upN (scN s) n v, scD s, scF s, scT s)
  | 4 => (scN s, upN (scD s) n v, scF s, scT s)
  | 5 => (scN s, scD s, upN (scF s) n (v == 1), scT s)
  | 6 => (scN s, scD s, scF s, v)
  | _ => s
def valN (f : Fo) (s : Sc) (n w : Nat) : Nat := match w with
  | 0 => scN s n
  | 1 => foH f n
  | 2 => foA f n
  | 3 => foG f n
  | 4 => scD s n
  | 5 => bI (scF s n)
  | _ => scT s
theorem setFo_P (f : Fo) (n w v : Nat) : foP (setFo f n w v) = foP f := by unfold setFo; split <;> rfl
theorem setFo_W (f : Fo) (n w v : Nat) : foW (setFo f n w v) = foW f := by unfold setFo; split <;> rfl
theorem setFo_ok {f : Fo} (ok : FoOk f) {n w v : Nat} (hv : FitV w v) : FoOk (setFo f n w v) := by
  obtain ⟨k1, k2, k3, k4⟩ := ok
  unfold setFo
  split
  · refine ⟨k1, k2, fun i hi => ⟨?_, (k3 i hi).2⟩, k4⟩
    show upN (foH f) n v i < 12
    have := hv.2.1 rfl
    rw [upN_at]; split
    · omega
    · exact (k3 i hi).1
  · refine ⟨k1, k2, fun i hi => ⟨(k3 i hi).1, ?_⟩, k4⟩
    show upN (foA f) n v i ≤ 12
    have := hv.2.2.1 rfl
    rw [upN_at]; split
    · omega
    · exact (k3 i hi).2
  · refine ⟨k1, k2, k3, fun i hi => ⟨(k4 i hi).1, (k4 i hi).2.1, ?_⟩⟩
    show 1 ≤ upN (foG f) n v i ∧ upN (foG f) n v i ≤ 9
    have := hv.2.2.2.1 rfl
    rw [upN_at]; split
    · exact this
    · exact (k4 i hi).2.2
  · exact ⟨k1, k2, k3, k4⟩
theorem setSc_ok {m : Nat} {s : Sc} (so : ScOk m s) {n w v : Nat} (hv : FitV w v) : ScOk m (setSc s n w v) := by
  obtain ⟨k1, k2, k3⟩ := so
  unfold setSc
  split
  · refine ⟨fun i hi => ?_, k2, k3⟩
    show upN (scN s) n v i ≤ 999
    have := hv.1 rfl
    rw [upN_at]; split
    · omega
    · exact k1 i hi
  · refine ⟨k1, fun i hi => ?_, k3⟩
    show upN (scD s) n v i ≤ 99
    have := hv.2.2.2.2.1 rfl
    rw [upN_at]; split
    · omega
    · exact k2 i hi
  · exact ⟨k1, k2, k3⟩
  · exact ⟨k1, k2, hv.2.2.2.2.2.2 rfl⟩
  · exact ⟨k1, k2, k3⟩
theorem val_fit {f : Fo} {s : Sc} (ok : FoOk f) (so : ScOk (foW f) s) {n w : Nat} (hw : w ≤ 6) (hn : FitN f n w) : FitV w (valN f s n w) := by
  obtain ⟨n0, n1, n2, n3⟩ := hn
  match w, hw with
  | 0, _ => exact ⟨fun _ => so.1 n (n0 rfl), fun e => by omega, fun e => by omega, fun e => by omega, fun e => by omega, fun e => by omega, fun e => by omega⟩
  | 1, _ => exact ⟨fun e => by omega, fun _ => by have := (ok.2.2.1 n (n1 (Or.inl rfl))).1; show foH f n ≤ 11; omega, fun e => by omega, fun e => by omega, fun e => by omega, fun e => by omega, fun e => by omega⟩
  | 2, _ => exact ⟨fun e => by omega, fun e => by omega, fun _ => (ok.2.2.1 n (n1 (Or.inr rfl))).2, fun e => by omega, fun e => by omega, fun e => by omega, fun e => by omega⟩
  | 3, _ => exact ⟨fun e => by omega, fun e => by omega, fun e => by omega, fun _ => (ok.2.2.2 n (n2 (Or.inl rfl))).2.2, fun e => by omega, fun e => by omega, fun e => by omega⟩
  | 4, _ => exact ⟨fun e => by omega, fun e => by omega, fun e => by omega, fun e => by omega, fun _ => so.2.1 n (n2 (Or.inr (Or.inl rfl))), fun e => by omega, fun e => by omega⟩
  | 5, _ => exact ⟨fun e => by omega, fun e => by omega, fun e => by omega, fun e => by omega, fun e => by omega, fun _ => by show bI (scF s n) ≤ 1; cases scF s n <;> decide, fun e => by omega⟩
  | 6, _ => exact ⟨fun e => by omega, fun e => by omega, fun e => by omega, fun e => by omega, fun e => by omega, fun e => by omega, fun _ => so.2.2⟩
theorem setX {f : Fo} {s : Sc} {h : Hp} (q : LR h) (ok : FoOk f) (F : FoX f h) (S : ScX (foW f) s 13 h) {n w v : Nat} (hw : w ≤ 6) (hn : FitN f n w) (hv : FitV w v) : ∃ h1, f_X7_setValue (nI n) (nI w) (nI v) h = some h1 ∧ FoX (setFo f n w v) h1 ∧ ScX (foW f) (setSc s n w v) 13 h1 ∧ Kp [2, 3, 6, 13, 14, 15] h h1 := by
  obtain ⟨n0, n1, n2, n3⟩ := hn
  have k1 := ok.1
  have k2 := ok.2.1
  obtain ⟨f1, f2, f3, f4⟩ := F
  obtain ⟨s1, s2, s3, s4⟩ := id S
  match w, hw with
  | 0, _ =>
    have := n0 rfl
    refine ⟨stI h 14 n (nI v), ?_, ⟨f1, f2, f3, f4⟩, ⟨fun i hi => ?_, s2, s3, s4⟩, (Kp.refl q).st (by decide)⟩
    · unfold f_X7_setValue; rw [if_pos (by decide), wr_14 this]; rfl
    · show (stI h 14 n (nI v)).1 14 i = nI (upN (scN s) n v i)
      rw [stI_at, if_pos rfl, upN_at]
      split
      · rfl
      · exact s1 i hi
  | 1, _ =>
    have := n1 (Or.inl rfl)
    refine ⟨stI h 2 n (nI v), ?_, ⟨f1, f2, fun i hi => ⟨?_, (f3 i hi).2⟩, f4⟩, S, (Kp.refl q).st (by decide)⟩
    · unfold f_X7_setValue; rw [if_neg (by decide), if_pos (by decide), wr_2 (by omega)]; rfl
    · show (stI h 2 n (nI v)).1 2 i = nI (upN (foH f) n v i)
      rw [stI_at, if_pos rfl, upN_at]
      split
      · rfl
      · exact (f3 i hi).1
  | 2, _ =>
    have := n1 (Or.inr rfl)
    refine ⟨stI h 3 n (nI v), ?_, ⟨f1, f2, fun i hi => ⟨(f3 i hi).1, ?_⟩, f4⟩, S, (Kp.refl q).st (by decide)⟩
    · unfold f_X7_setValue; rw [if_neg (by decide), if_neg (by decide), if_pos (by decide), wr_3 (by omega)]; rfl
    · show (stI h 3 n (nI v)).1 3 i = nI (upN (foA f) n v i)
      rw [stI_at, if_pos rfl, upN_at]
      split
      · rfl
      · exact (f3 i hi).2
  | 3, _ =>
    have := n2 (Or.inl rfl)
    refine ⟨stI h 6 n (nI v), ?_, ⟨f1, f2, f3, fun i hi => ⟨(f4 i hi).1, (f4 i hi).2.1, ?_⟩⟩, S, (Kp.refl q).st (by decide)⟩
    · unfold f_X7_setValue; rw [if_neg (by decide), if_neg (by decide), if_neg (by decide), if_pos (by decide), wr_6 (by omega)]; rfl
    · show (stI h 6 n (nI v)).1 6 i = nI (upN (foG f) n v i)
      rw [stI_at, if_pos rfl, upN_at]
      split
      · rfl
      · exact (f4 i hi).2.2
  | 4, _ =>
    have := n2 (Or.inr (Or.inl rfl))
    refine ⟨stI h 15 n (nI v), ?_, ⟨f1, f2, f3, f4⟩, ⟨s1, fun i hi => ?_, s3, s4⟩, (Kp.refl q).st (by decide)⟩
    · unfold f_X7_setValue; rw [if_neg (by decide), if_neg (by decide), if_neg (by decide), if_neg (by decide), if_pos (by decide), wr_15 (by omega)]; rfl
    · show (stI h 15 n (nI v)).1 15 i = nI (upN (scD s) n v i)
      rw [stI_at, if_pos rfl, upN_at]
      split
      · rfl
      · exact s2 i hi
  | 5, _ =>
    have := n2 (Or.inr (Or.inr rfl))
    have hv1 := hv.2.2.2.2.2.1 rfl
    by_cases z : v = 0
    · subst z
      refine ⟨stI h 13 3 (nI (msk (upN (scF s) n false) (foW f))), ?_, ⟨f1, f2, f3, f4⟩, ⟨s1, s2, ?_, s4⟩, (Kp.refl q).st (by decide)⟩
      · unfold f_X7_setValue; rw [if_neg (by decide), if_neg (by decide), if_neg (by decide), if_neg (by decide), if_neg (by decide), if_pos (by decide), if_pos (by decide), setF0 ok13 k2 S this]; rfl
      · rfl
    · have z1 : v = 1 := by omega
      subst z1
      refine ⟨stI h 13 3 (nI (msk (upN (scF s) n true) (foW f))), ?_, ⟨f1, f2, f3, f4⟩, ⟨s1, s2, ?_, s4⟩, (Kp.refl q).st (by decide)⟩
      · unfold f_X7_setValue; rw [if_neg (by decide), if_neg (by decide), if_neg (by decide), if_neg (by decide), if_neg (by decide), if_pos (by decide), if_neg (by decide), setF1 ok13 k2 S this]; rfl
      · rfl
  | 6, _ =>
    refine ⟨stI h 13 4 (nI v), ?_, ⟨f1, f2, f3, f4⟩, ⟨s1, s2, s3, rfl⟩, (Kp.refl q).st (by decide)⟩
    unfold f_X7_setValue; rw [if_neg (by decide), if_neg (by decide), if_neg (by decide), if_neg (by decide), if_neg (by decide), if_neg (by decide)]; rfl
theorem setM {f : Fo} {s : Sc} {h : Hp} (q : LR h) (ok : FoOk f) (F : FoM f h) (S : ScM (foW f) s h) {n w v : Nat} (hw : w ≤ 6) (hn : FitN f n w) (hv : FitV w v) : ∃ h1, f_X8_becomes (nI n) (nI w) (nI v) h = some h1 ∧ FoM (setFo f n w v) h1 ∧ ScM (foW f) (setSc s n w v) h1 ∧ Kp [53, 54, 55, 56, 59, 60, 61] h h1 ∧ ∀ j, j ≠ 10 → h1.1 53 j = h.1 53 j := by
  obtain ⟨n0, n1, n2, n3⟩ := hn
  have k1 := ok.1
  have k2 := ok.2.1
  obtain ⟨f1, f2, f3, f4⟩ := F
  obtain ⟨s1, s2, s3, s4⟩ := id S
  match w, hw with
  | 0, _ =>
    have := n0 rfl
    refine ⟨stI h 54 n (nI v), ?_, ⟨f1, f2, f3, f4⟩, ⟨fun i hi => ?_, s2, s3, s4⟩, (Kp.refl q).st (by decide), fun _ _ => rfl⟩
    · unfold f_X8_becomes; rw [if_pos (by decide), wr_54 this]; rfl
    · show (stI h 54 n (nI v)).1 54 i = nI (upN (scN s) n v i)
      rw [stI_at, if_pos rfl, upN_at]
      split
      · rfl
      · exact s1 i hi
  | 1, _ =>
    have := n1 (Or.inl rfl)
    refine ⟨stI h 55 n (nI v), ?_, ⟨f1, f2, fun i hi => ⟨?_, (f3 i hi).2⟩, f4⟩, S, (Kp.refl q).st (by decide), fun _ _ => rfl⟩
    · unfold f_X8_becomes; rw [if_neg (by decide), if_pos (by decide), wr_55 (by omega)]; rfl
    · show (stI h 55 n (nI v)).1 55 i = nI (upN (foH f) n v i)
      rw [stI_at, if_pos rfl, upN_at]
      split
      · rfl
      · exact (f3 i hi).1
  | 2, _ =>
    have := n1 (Or.inr rfl)
    refine ⟨stI h 56 n (nI v), ?_, ⟨f1, f2, fun i hi => ⟨(f3 i hi).1, ?_⟩, f4⟩, S, (Kp.refl q).st (by decide), fun _ _ => rfl⟩
    · unfold f_X8_becomes; rw [if_neg (by decide), if_neg (by decide), if_pos (by decide), wr_56 (by omega)]; rfl
    · show (stI h 56 n (nI v)).1 56 i = nI (upN (foA f) n v i)
      rw [stI_at, if_pos rfl, upN_at]
      split
      · rfl
      · exact (f3 i hi).2
  | 3, _ =>
    have := n2 (Or.inl rfl)
    refine ⟨stI h 59 n (nI v), ?_, ⟨f1, f2, f3, fun i hi => ⟨(f4 i hi).1, (f4 i hi).2.1, ?_⟩⟩, S, (Kp.refl q).st (by decide), fun _ _ => rfl⟩
    · unfold f_X8_becomes; rw [if_neg (by decide), if_neg (by decide), if_neg (by decide), if_pos (by decide), wr_59 (by omega)]; rfl
    · show (stI h 59 n (nI v)).1 59 i = nI (upN (foG f) n v i)
      rw [stI_at, if_pos rfl, upN_at]
      split
      · rfl
      · exact (f4 i hi).2.2
  | 4, _ =>
    have := n2 (Or.inr (Or.inl rfl))
    refine ⟨stI h 60 n (nI v), ?_, ⟨f1, f2, f3, f4⟩, ⟨s1, fun i hi => ?_, s3, s4⟩, (Kp.refl q).st (by decide), fun _ _ => rfl⟩
    · unfold f_X8_becomes; rw [if_neg (by decide), if_neg (by decide), if_neg (by decide), if_neg (by decide), if_pos (by decide), wr_60 (by omega)]; rfl
    · show (stI h 60 n (nI v)).1 60 i = nI (upN (scD s) n v i)
      rw [stI_at, if_pos rfl, upN_at]
      split
      · rfl
      · exact s2 i hi
  | 5, _ =>
    have := n2 (Or.inr (Or.inr rfl))
    have hv1 := hv.2.2.2.2.2.1 rfl
    refine ⟨stI h 61 n (nI v), ?_, ⟨f1, f2, f3, f4⟩, ⟨s1, s2, fun i hi => ?_, s4⟩, (Kp.refl q).st (by decide), fun _ _ => rfl⟩
    · unfold f_X8_becomes; rw [if_neg (by decide), if_neg (by decide), if_neg (by decide), if_neg (by decide), if_neg (by decide), if_pos (by decide), wr_61 (by omega)]; rfl
    · show (stI h 61 n (nI v)).1 61 i = nI (bI (upN (scF s) n (v == 1) i))
      rw [stI_at, if_pos rfl, upN_at]
      split
      · by_cases z : v = 0
        · subst z; rfl
        · have : v = 1 := by omega
          subst this; rfl
      · exact s3 i hi
  | 6, _ =>
    refine ⟨stI h 53 10 (nI v), ?_, ⟨f1, f2, f3, f4⟩, ⟨s1, s2, s3, rfl⟩, (Kp.refl q).st (by decide), fun j hj => by rw [stI_at, if_pos rfl, if_neg hj]⟩
    unfold f_X8_becomes; rw [if_neg (by decide), if_neg (by decide), if_neg (by decide), if_neg (by decide), if_neg (by decide), if_neg (by decide)]; rfl
theorem val_x {f : Fo} {s : Sc} {h : Hp} (ok : FoOk f) (F : FoX f h) (S : ScX (foW f) s 13 h) {n w : Nat} (hw : w ≤ 6) (hn : FitN f n w) : f_X7_valueOf (nI n) (nI w) h = some (nI (valN f s n w)) := by
  obtain ⟨n0, n1, n2, n3⟩ := hn
  have k1 := ok.1
  have k2 := ok.2.1
  obtain ⟨f1, f2, f3, f4⟩ := F
  unfold f_X7_valueOf
  match w, hw with
  | 0, _ => rw [if_pos (by decide), rd_14 (n0 rfl), S.n13 (n0 rfl)]; rfl
  | 1, _ =>
    have := n1 (Or.inl rfl)
    rw [if_neg (by decide), if_pos (by decide), rd_2 (by omega), (f3 n this).1]; rfl
  | 2, _ =>
    have := n1 (Or.inr rfl)
    rw [if_neg (by decide), if_neg (by decide), if_pos (by decide), rd_3 (by omega), (f3 n this).2]; rfl
  | 3, _ =>
    have := n2 (Or.inl rfl)
    rw [if_neg (by decide), if_neg (by decide), if_neg (by decide), if_pos (by decide), rd_6 (by omega), (f4 n this).2.2]; rfl
  | 4, _ =>
    have := n2 (Or.inr (Or.inl rfl))
    rw [if_neg (by decide), if_neg (by decide), if_neg (by decide), if_neg (by decide), if_pos (by decide), rd_15 (by omega), S.d13 this]; rfl
  | 5, _ =>
    have := n2 (Or.inr (Or.inr rfl))
    rw [if_neg (by decide), if_neg (by decide), if_neg (by decide), if_neg (by decide), if_neg (by decide), if_pos (by decide), isForg_x ok13 k2 S this]
    simp only [Option.bind_some, bI_if]; rfl
  | 6, _ => rw [if_neg (by decide), if_neg (by decide), if_neg (by decide), if_neg (by decide), if_neg (by decide), if_neg (by decide), if_pos (by decide), S.2.2.2]; rfl
theorem val_m {f : Fo} {s : Sc} {h : Hp} (ok : FoOk f) (F : FoM f h) (S : ScM (foW f) s h) {n w : Nat} (hw : w ≤ 6) (hn : FitN f n w) : f_X8_get (nI n) (nI w) h = some (nI (valN f s n w)) := by
  obtain ⟨n0, n1, n2, n3⟩ := hn
  have k1 := ok.1
  have k2 := ok.2.1
  obtain ⟨f1, f2, f3, f4⟩ := F
  obtain ⟨s1, s2, s3, s4⟩ := S
  unfold f_X8_get
  match w, hw with
  | 0, _ => rw [if_pos (by decide), rd_54 (n0 rfl), s1 n (n0 rfl)]; rfl
  | 1, _ =>
    have := n1 (Or.inl rfl)
    rw [if_neg (by decide), if_pos (by decide), rd_55 (by omega), (f3 n this).1]; rfl
  | 2, _ =>
    have := n1 (Or.inr rfl)
    rw [if_neg (by decide), if_neg (by decide), if_pos (by decide), rd_56 (by omega), (f3 n this).2]; rfl
  | 3, _ =>
    have := n2 (Or.inl rfl)
    rw [if_neg (by decide), if_neg (by decide), if_neg (by decide), if_pos (by decide), rd_59 (by omega), (f4 n this).2.2]; rfl
  | 4, _ =>
    have := n2 (Or.inr (Or.inl rfl))
    rw [if_neg (by decide), if_neg (by decide), if_neg (by decide), if_neg (by decide), if_pos (by decide), rd_60 (by omega), s2 n this]; rfl
  | 5, _ =>
    have := n2 (Or.inr (Or.inr rfl))
    rw [if_neg (by decide), if_neg (by decide), if_neg (by decide), if_neg (by decide), if_neg (by decide), if_pos (by decide), rd_61 (by omega), s3 n this]; rfl
  | 6, _ => rw [if_neg (by decide), if_neg (by decide), if_neg (by decide), if_neg (by decide), if_neg (by decide), if_neg (by decide), s4]; rfl
theorem setSc_w {f : Fo} {n w v : Nat} {s : Sc} {h : Hp} (S : ScX (foW f) s 13 h) : ScX (foW (setFo f n w v)) s 13 h := by rw [setFo_W]; exact S
/-- a number has been told anew on both sides: what remains -/
theorem RelA.told {f : Fo} {s : Sc} {φ : Ph} {b n w v : Nat} {h h' : Hp} (R : RelA f s φ b h) (K : Kp FOL h h') (e : ∀ j, j ≠ 10 → j ≠ 34 → j ≠ 35 → h'.1 53 j = h.1 53 j) (hv : FitV w v) (FX : FoX (setFo f n w v) h') (FM : FoM (setFo f n w v) h') (SX : ScX (foW f) (setSc s n w v) 13 h') (SM : ScM (foW f) (setSc s n w v) h') (hc : Chg f h') : Rel h' := by
  have ew := setFo_W f n w v
  have ep := setFo_P f n w v
  refine ⟨setFo f n w v, setSc s n w v, φ, b, R.fo K (fun j _ _ h3 h4 h5 => e j h3 h4 h5) (setFo_ok R.1.2.2.1 hv) FX FM ?_ ?_ ?_ ?_ (hc.mono ?_ ?_)⟩
  · rw [ew]; exact setSc_ok R.1.2.2.2 hv
  · rw [ew]; exact SX
  · rw [ew]; exact SM
  · rw [ew]; exact Nat.le_refl _
  · rw [ep]; exact Nat.le_refl _
  · rw [ew]; exact Nat.le_refl _
theorem a_undo (h : Hp) (R : Rel h) : Ag (f_X7_undo h) (f_X8_undo) := by
  have R0 := R
  obtain ⟨f, s, φ, b, R0A⟩ := R
  obtain ⟨⟨r1, r2, r3, r4⟩, ⟨r5, r6, r7, r8⟩, ⟨r9, r10⟩, r11, r12, r13, ⟨N, d, c1, c2, c3, c4, c5, c6, c7⟩, r15, r16⟩ := id R0A
  have n10 : ¬ (1 : Int32) = 0 := by decide
  by_cases z : d = 0
  · subst z
    refine ag_same R0 (v := -5) ?_ ?_
    · unfold f_X7_undo f_X0_toUndo; rw [c5]; rfl
    · unfold f_X8_undo; rw [c6]; rfl
  · obtain ⟨g1, g2, g3, g4, n, w, x, y, e1, e2, e3, e4, e5, e6, e7, e8⟩ := c7 (d - 1) (by omega)
    unfold Ag f_X7_undo f_X0_toUndo f_X0_stepBack
    rw [c5, if_neg (by rw [nl0, nI_leI (by omega) (by decide)]; omega)]
    simp only [Option.bind_some, if_neg n10, lt]
    rw [nl1, nI_sub (by omega)]
    have a5 : (stI h 25 5 (nI (d - 1))).1 25 5 = nI (d - 1) := rfl
    rw [a5, rd_26 (by omega), rd_27 (by omega), rd_28 (by omega)]
    simp only [Option.bind_some]
    rw [show (stI h 25 5 (nI (d - 1))).1 26 (d - 1) = nI n from e1, show (stI h 25 5 (nI (d - 1))).1 27 (d - 1) = nI w from e2, show (stI h 25 5 (nI (d - 1))).1 28 (d - 1) = nI x from e3]
    have K0 : Kp FOL h (stI h 25 5 (nI (d - 1))) := (Kp.refl r1).st (by decide)
    obtain ⟨h1, t1, t2, t3, t4⟩ := setX (s := s) K0.1 r3 (r5.eq rfl rfl rfl rfl rfl rfl) (r7.eq rfl rfl rfl) e5 e6 e7
    rw [t1]
    refine ⟨_, rfl, ?_⟩
    simp only
    have k25 : h1.1 25 = (stI h 25 5 (nI (d - 1))).1 25 := t4.i 25 (by decide)
    have k53 : h1.1 53 = h.1 53 := t4.i 53 (by decide)
    have k76 : h1.1 76 = h.1 76 := t4.i 76 (by decide)
    rw [k25, a5]
    unfold f_X8_undo
    rw [k53, c6, if_neg (by rw [nl0, nI_eq (by omega) (by decide)]; exact z), nl1, nI_sub (by omega)]
    simp only [lt]
    have b5 : (stI h1 53 35 (nI (d - 1))).1 53 35 = nI (d - 1) := rfl
    have b76 : (stI h1 53 35 (nI (d - 1))).1 76 = h.1 76 := k76
    rw [b5, nl4, nI_mul, nl2, nI_add, nI_add, rd_76 (by omega), rd_76 (by omega), rd_76 (by omega), b76]
    simp only [Option.bind_some]
    rw [← g1, ← g2, ← g3, e1, e2, e3]
    have K1 : Kp FOL h (stI h1 53 35 (nI (d - 1))) := (K0.trans (t4.mono (by decide))).st (by decide)
    have m6 : FoM f (stI h1 53 35 (nI (d - 1))) := r6.eq (by simp [stI_at, k53]) (by simp [stI_at, k53]) (t4.i 55 (by decide)) (t4.i 56 (by decide)) (t4.i 57 (by decide)) (t4.i 58 (by decide)) (t4.i 59 (by decide))
    have m8 : ScM (foW f) s (stI h1 53 35 (nI (d - 1))) := r8.eq (t4.i 54 (by decide)) (t4.i 60 (by decide)) (t4.i 61 (by decide)) (by simp [stI_at, k53])
    obtain ⟨h2, u1, u2, u3, u4, u5⟩ := setM K1.1 r3 m6 m8 e5 e6 e7
    rw [u1]
    have v35 : h2.1 53 35 = nI (d - 1) := by rw [u5 35 (by decide)]; rfl
    refine ⟨_, rfl, v35.symm, ?_⟩
    refine R0A.told (K1.trans (u4.mono (by decide))) (fun j q1 q2 q3 => by rw [u5 j q1, stI_at, if_pos rfl, if_neg q3, k53]) e7 (t2.eq (u4.i 1 (by decide)) (u4.i 2 (by decide)) (u4.i 3 (by decide)) (u4.i 4 (by decide)) (u4.i 5 (by decide)) (u4.i 6 (by decide))) u2 (t3.eq (u4.i 13 (by decide)) (u4.i 14 (by decide)) (u4.i 15 (by decide))) u3 ?_
    have w25 : h2.1 25 = (stI h 25 5 (nI (d - 1))).1 25 := by rw [u4.i 25 (by decide)]; exact k25
    have w76 : h2.1 76 = h.1 76 := by rw [u4.i 76 (by decide)]; exact k76
    have wk : ∀ c, c ∈ [26, 27, 28, 29] → h2.1 c = h.1 c := by
      intro c hc
      have q1 : List.contains [53, 54, 55, 56, 59, 60, 61] c = false := by simp at hc ⊢; omega
      have q2 : List.contains [2, 3, 6, 13, 14, 15] c = false := by simp at hc ⊢; omega
      rw [u4.i c q1]
      show (stI h1 53 35 _).1 c = _
      rw [show (stI h1 53 35 (nI (d - 1))).1 c = h1.1 c from if_neg (by simp at hc; omega), t4.i c q2]
      exact if_neg (by simp at hc; omega)
    refine ⟨N, d - 1, c1, by omega, by rw [w25]; exact c3, by rw [u5 34 (by decide)]; show h1.1 53 34 = _; rw [k53]; exact c4, by rw [w25]; rfl, v35, fun i hi => ?_⟩
    rw [wk 26 (by decide), wk 27 (by decide), wk 28 (by decide), wk 29 (by decide), w76]
    exact c7 i hi
theorem a_redo (h : Hp) (R : Rel h) : Ag (f_X7_redo h) (f_X8_redo) := by
  have R0 := R
  obtain ⟨f, s, φ, b, R0A⟩ := R
  obtain ⟨⟨r1, r2, r3, r4⟩, ⟨r5, r6, r7, r8⟩, ⟨r9, r10⟩, r11, r12, r13, ⟨N, d, c1, c2, c3, c4, c5, c6, c7⟩, r15, r16⟩ := id R0A
  have n10 : ¬ (1 : Int32) = 0 := by decide
  by_cases z : d = N
  · subst z
    refine ag_same R0 (v := -5) ?_ ?_
    · unfold f_X7_redo f_X0_toRedo; rw [c5, c3, if_pos (nI_le (Nat.le_refl _) (by omega))]; rfl
    · unfold f_X8_redo; rw [c6, c4, if_pos rfl]
  · obtain ⟨g1, g2, g3, g4, n, w, x, y, e1, e2, e3, e4, e5, e6, e7, e8⟩ := c7 d (by omega)
    unfold Ag f_X7_redo f_X0_toRedo f_X0_stepOn
    rw [c5, c3, if_neg (by rw [nI_leI (by omega) (by omega)]; omega)]
    simp only [Option.bind_some, if_neg n10, lt]
    rw [nl1, nI_add]
    have a5 : (stI h 25 5 (nI (d + 1))).1 25 5 = nI (d + 1) := rfl
    rw [a5, nI_sub (by omega), Nat.add_sub_cancel, rd_26 (by omega), rd_27 (by omega), rd_29 (by omega)]
    simp only [Option.bind_some]
    rw [show (stI h 25 5 (nI (d + 1))).1 26 d = nI n from e1, show (stI h 25 5 (nI (d + 1))).1 27 d = nI w from e2, show (stI h 25 5 (nI (d + 1))).1 29 d = nI y from e4]
    have K0 : Kp FOL h (stI h 25 5 (nI (d + 1))) := (Kp.refl r1).st (by decide)
    obtain ⟨h1, t1, t2, t3, t4⟩ := setX (s := s) K0.1 r3 (r5.eq rfl rfl rfl rfl rfl rfl) (r7.eq rfl rfl rfl) e5 e6 e8
    rw [t1]
    refine ⟨_, rfl, ?_⟩
    simp only
    have k25 : h1.1 25 = (stI h 25 5 (nI (d + 1))).1 25 := t4.i 25 (by decide)
    have k53 : h1.1 53 = h.1 53 := t4.i 53 (by decide)
    have k76 : h1.1 76 = h.1 76 := t4.i 76 (by decide)
    rw [k25, a5, show (stI h 25 5 (nI (d + 1))).1 25 4 = nI N from c3, nI_sub (by omega)]
    unfold f_X8_redo
    rw [k53, c6, c4, if_neg (by rw [nI_eq (by omega) (by omega)]; exact z), nl4, nI_mul, nl1, nl3, nI_add, nI_add, rd_76 (by omega), rd_76 (by omega), rd_76 (by omega), k76]
    simp only [Option.bind_some]
    rw [← g1, ← g2, ← g4, e1, e2, e4]
    have K1 : Kp FOL h h1 := K0.trans (t4.mono (by decide))
    have m6 : FoM f h1 := r6.eq (by rw [k53]) (by rw [k53]) (t4.i 55 (by decide)) (t4.i 56 (by decide)) (t4.i 57 (by decide)) (t4.i 58 (by decide)) (t4.i 59 (by decide))
    have m8 : ScM (foW f) s h1 := r8.eq (t4.i 54 (by decide)) (t4.i 60 (by decide)) (t4.i 61 (by decide)) (by rw [k53])
    obtain ⟨h2, u1, u2, u3, u4, u5⟩ := setM K1.1 r3 m6 m8 e5 e6 e8
    rw [u1]
    simp only [Option.bind_some, lt]
    have v35 : h2.1 53 35 = nI d := by rw [u5 35 (by decide), k53, c6]
    have v34 : h2.1 53 34 = nI N := by rw [u5 34 (by decide), k53, c4]
    rw [v35, nI_add]
    have o34 : (stI h2 53 35 (nI (d + 1))).1 53 34 = nI N := v34
    refine ⟨_, rfl, ?_, ?_⟩
    · show nI (N - (d + 1)) = (stI h2 53 35 (nI (d + 1))).1 53 34 - nI (d + 1)
      rw [o34, nI_sub (by omega)]
    have K2 : Kp FOL h (stI h2 53 35 (nI (d + 1))) := (K1.trans (u4.mono (by decide))).st (by decide)
    refine R0A.told K2 (fun j q1 q2 q3 => by rw [stI_at, if_pos rfl, if_neg q3, u5 j q1, k53]) e8 (t2.eq (u4.i 1 (by decide)) (u4.i 2 (by decide)) (u4.i 3 (by decide)) (u4.i 4 (by decide)) (u4.i 5 (by decide)) (u4.i 6 (by decide))) (u2.eq (by simp [stI_at]) (by simp [stI_at]) rfl rfl rfl rfl rfl) (t3.eq (u4.i 13 (by decide)) (u4.i 14 (by decide)) (u4.i 15 (by decide))) (u3.eq rfl rfl rfl (by simp [stI_at])) ?_
    have w25 : h2.1 25 = (stI h 25 5 (nI (d + 1))).1 25 := by rw [u4.i 25 (by decide)]; exact k25
    have w76 : h2.1 76 = h.1 76 := by rw [u4.i 76 (by decide)]; exact k76
    have wk : ∀ c, c ∈ [26, 27, 28, 29] → h2.1 c = h.1 c := by
      intro c hc
      have q1 : List.contains [53, 54, 55, 56, 59, 60, 61] c = false := by simp at hc ⊢; omega
      have q2 : List.contains [2, 3, 6, 13, 14, 15] c = false := by simp at hc ⊢; omega
      rw [u4.i c q1, t4.i c q2]
      exact if_neg (by simp at hc; omega)
    refine ⟨N, d + 1, c1, by omega, by show h2.1 25 4 = _; rw [w25]; exact c3, o34, by show h2.1 25 5 = _; rw [w25]; rfl, rfl, fun i hi => ?_⟩
    show h2.1 26 i = h2.1 76 _ ∧ h2.1 27 i = h2.1 76 _ ∧ h2.1 28 i = h2.1 76 _ ∧ h2.1 29 i = h2.1 76 _ ∧ ChOk f (h2.1 26 i) (h2.1 27 i) (h2.1 28 i) (h2.1 29 i)
    rw [wk 26 (by decide), wk 27 (by decide), wk 28 (by decide), wk 29 (by decide), w76]
    exact c7 i hi
