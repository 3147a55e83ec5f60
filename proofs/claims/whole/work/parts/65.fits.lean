/-! by how many hearts, weights all is so -/
def sp (U : Nat → Bool) : Nat → Nat → Nat × Int32
  | _, 0 => (0, -2)
  | lo, c + 1 => if U lo then ((sp U (lo + 1) c).1 + 1, nI lo) else sp U (lo + 1) c
theorem sp_le (U : Nat → Bool) : ∀ c lo, (sp U lo c).1 ≤ c
  | 0, _ => Nat.le_refl 0
  | c + 1, lo => by
    have := sp_le U c (lo + 1)
    rw [sp]
    split
    · show (sp U (lo + 1) c).1 + 1 ≤ c + 1; omega
    · omega
/-- one place of a cell may differ -/
def NrC (c i : Nat) (h g : Hp) : Prop := (∀ j, j ≠ i → g.1 c j = h.1 c j) ∧ g.2.1 c = h.2.1 c ∧ g.2.2 c = h.2.2 c
theorem NrC.refl {c i : Nat} {h : Hp} : NrC c i h h := ⟨fun _ _ => rfl, rfl, rfl⟩
theorem NrC.st {c i : Nat} {h g : Hp} (N : NrC c i h g) (v : Int32) : NrC c i h (stI g c i v) := ⟨fun j hj => by rw [stI_at, if_pos rfl, if_neg hj, N.1 j hj], N.2.1, N.2.2⟩
theorem NrC.kp {c i : Nat} {L : List Nat} {h g k : Hp} (N : NrC c i h g) (K : Kp L g k) (hL : L.contains c = false) : NrC c i h k := ⟨fun j hj => by rw [K.i c hL, N.1 j hj], by rw [K.l c hL, N.2.1], by rw [K.r c hL, N.2.2]⟩
def cmb (a : Nat) (x : Int32) (q : Nat × Int32) : Nat × Int32 := (a + q.1, if a = 0 then q.2 else x)
theorem cmb_yes {U : Nat → Bool} {a v r : Nat} {x : Int32} (h : U v = true) : cmb (a + 1) (if a = 0 then nI v else x) (sp U (v + 1) r) = cmb a x (sp U v (r + 1)) := by
  rw [sp, if_pos h]
  unfold cmb
  rw [if_neg (by omega)]
  refine Prod.ext ?_ rfl
  show a + 1 + _ = a + (_ + 1)
  omega
theorem cmb_no {U : Nat → Bool} {v r : Nat} (h : U v = false) : sp U v (r + 1) = sp U (v + 1) r := by
  rw [sp, if_neg (by rw [h]; decide)]
theorem RX.kp {f : Fo} {s : Sc} {φ : Ph} {h g : Hp} (R : RX f s φ h) (K : Kp [11, 12, 17, 18, 19, 20] h g) (t : Thk 17 g) : RX f s φ g := by
  obtain ⟨q, hφ, ok, so, F, S, L, _⟩ := R
  exact ⟨K.1, hφ, ok, so, F.kp K (by decide), S.kp K (by decide) (by decide) (by decide), L.kp K (by decide), t⟩

theorem foXs2 {f : Fo} {g : Hp} {i v' v : Nat} (F : FoX (setFo f i 2 v') g) : FoX (setFo f i 2 v) (stI g 3 i (nI v)) := by
  obtain ⟨f1, f2, f3, f4⟩ := F
  refine ⟨f1, f2, fun j hj => ⟨(f3 j hj).1, ?_⟩, f4⟩
  have := (f3 j hj).2
  show (stI g 3 i (nI v)).1 3 j = nI (upN (foA f) i v j)
  have h2 : g.1 3 j = nI (upN (foA f) i v' j) := this
  rw [stI_at, if_pos rfl, upN_at]
  rw [upN_at] at h2
  by_cases q : j = i
  · rw [if_pos q, if_pos q]
  · rw [if_neg q, if_neg q, h2, if_neg q]
theorem foMs2 {f : Fo} {g : Hp} {i v' v : Nat} (F : FoM (setFo f i 2 v') g) : FoM (setFo f i 2 v) (stI g 56 i (nI v)) := by
  obtain ⟨f1, f2, f3, f4⟩ := F
  refine ⟨f1, f2, fun j hj => ⟨(f3 j hj).1, ?_⟩, f4⟩
  have := (f3 j hj).2
  show (stI g 56 i (nI v)).1 56 j = nI (upN (foA f) i v j)
  have h2 : g.1 56 j = nI (upN (foA f) i v' j) := this
  rw [stI_at, if_pos rfl, upN_at]
  rw [upN_at] at h2
  by_cases q : j = i
  · rw [if_pos q, if_pos q]
  · rw [if_neg q, if_neg q, h2, if_neg q]
theorem setFo_same2 {f : Fo} {i v : Nat} (h : foA f i = v) : setFo f i 2 v = f := by
  unfold setFo
  show (foP f, foW f, foH f, upN (foA f) i v, foB f, foT f, foG f) = f
  rw [upN_same h]; rfl
theorem fitX2 {f : Fo} {s : Sc} {φ : Ph} {h : Hp} (R : RX f s φ h) {k p hs n P i : Nat} {a a4 a8 : Int32} (ea : a / 10 = nI k) (eb : a % 10 = nI p) (hk : k < 6) (hp : p < 6) (hh : hs < 12) (hn : n ≤ 60) (hP : P ≤ 60) (hi : i < foP f) (e38 : h.1 38 k = nI n) (p38 : h.1 38 p = nI P) {V W : Nat → Int32} (hV : ∀ j, j < 60 → (h.2.1 (32 + k) j).toInt32 = V j) (hW : ∀ j, j < 60 → h.2.1 (32 + p) j = (W j).toInt64) {U : Nat → Bool} (hU : U = fun v => decide (fbad (badB V W (setFo f i 2 v) φ s hs (lead V (foW f) 0 (min 40 n))) 0 P = -2)) : Ev (iter (b_X7_fits_151b a (nI hs) (nI i) a4 a8 (nI 12)) FU (0, -2, nI 0, h)) fun u => u.1 = nI (sp U 0 13).1 ∧ u.2.1 = (sp U 0 13).2 ∧ Kp [3, 11, 12, 17, 18, 19, 20] h u.2.2.2 ∧ NrC 3 i h u.2.2.2 ∧ Thk 17 u.2.2.2 := by
  have hPw := R.2.2.1
  have h10 := hPw.1
  have h12 := hPw.2.1
  refine ev_for (k := 0) (fun c (u : Int32 × Int32 × Int32 × Hp) => ∃ m, u.1 = nI m ∧ m ≤ c ∧ (m = 0 → u.2.1 = -2) ∧ u.2.2.1 = nI (0 + c) ∧ cmb m u.2.1 (sp U (0 + c) (13 - c)) = sp U 0 13 ∧ Kp [3, 11, 12, 17, 18, 19, 20] h u.2.2.2 ∧ NrC 3 i h u.2.2.2 ∧ ∃ v', RX (setFo f i 2 v') s φ u.2.2.2) 13 (fun c u hc hu => ?_) ⟨0, rfl, Nat.le_refl _, fun _ => rfl, rfl, ?_, Kp.refl R.1, NrC.refl, foA f i, by rw [setFo_same2 rfl]; exact R⟩ (Nat.zero_le _) (by rw [FUe]; omega)
  · obtain ⟨x1, x2, x3, g⟩ := u
    obtain ⟨m, p1, p2, p3, p4, p5, p6, p7, v', p8⟩ := hu
    simp only at p1 p2 p3 p4 p5 p6 p7 p8
    subst p1 p4
    unfold b_X7_fits_151b
    by_cases z : 13 ≤ c
    · rw [if_pos (nI_lt (by omega) (by omega))]
      rw [show 13 - c = 0 by omega] at p5
      refine ev_some ⟨?_, ?_, p6, p7, p8.2.2.2.2.2.2.2⟩
      · rw [← p5]; rfl
      · rw [← p5]
        show x2 = if m = 0 then -2 else x2
        split
        · rename_i q; exact p3 q
        · rfl
    · have hfit : FitV 2 (0 + c) := ⟨fun e => by omega, fun e => by omega, fun _ => by omega, fun e => by omega, fun e => by omega, fun e => by omega, fun e => by omega⟩
      rw [if_neg (nI_nlt (by omega) (by decide)), wr_3 (by omega)]
      simp only [Option.bind_some]
      rw [ea, eb]
      have R1 : RX (setFo f i 2 (0 + c)) s φ (stI g 3 i (nI (0 + c))) := by
        obtain ⟨q, hφ, ok, so, F, S, L, t⟩ := p8
        exact ⟨q, hφ, setFo_ok hPw hfit, so, foXs2 F, S.eq rfl rfl rfl, L.eq rfl rfl rfl rfl, t.eq rfl⟩
      refine ev_call (unlike_x R1 hk hp hh hn hP (by show g.1 38 k = _; rw [p6.i 38 (by decide)]; exact e38) (by show g.1 38 p = _; rw [p6.i 38 (by decide)]; exact p38) (V := V) (W := W) (fun j hj => by show (g.2.1 (32 + k) j).toInt32 = _; rw [p6.l (32 + k) (by simp; omega)]; exact hV j hj) (fun j hj => by show g.2.1 (32 + p) j = _; rw [p6.l (32 + p) (by simp; omega)]; exact hW j hj)) (fun r hr => ?_)
      obtain ⟨r1, r2, r3⟩ := hr
      have KK : Kp [3, 11, 12, 17, 18, 19, 20] h r.2 := (p6.st (by decide)).trans (r2.mono (by decide))
      have K7 : NrC 3 i h r.2 := (p7.st _).kp r2 (by decide)
      have hUv : U (0 + c) = decide (r.1 = -2) := by rw [hU, r1]; rfl
      rw [show 13 - c = (13 - (c + 1)) + 1 by omega] at p5
      by_cases q : r.1 = -2
      · rw [if_pos q]
        have hU1 : U (0 + c) = true := by rw [hUv, q]; rfl
        rw [← cmb_yes hU1] at p5
        by_cases z0 : m = 0
        · subst z0
          rw [if_pos rfl] at p5
          rw [if_pos (show nI 0 = (0 : Int32) from rfl)]
          exact ev_some ⟨by omega, 0 + 1, rfl, by omega, fun e => by omega, by show nI (0 + c) + 1 = nI (0 + (c + 1)); rw [nl1, nI_add]; rfl, p5, KK, K7, _, R1.kp r2 r3⟩
        · rw [if_neg z0] at p5
          rw [if_neg (by rw [nl0, nI_eq (by omega) (by decide)]; exact z0)]
          exact ev_some ⟨by omega, m + 1, by rw [nl1, nI_add], by omega, fun e => by omega, by show nI (0 + c) + 1 = nI (0 + (c + 1)); rw [nl1, nI_add]; rfl, p5, KK, K7, _, R1.kp r2 r3⟩
      · rw [if_neg q]
        have hU1 : U (0 + c) = false := by rw [hUv]; simp [q]
        rw [cmb_no hU1] at p5
        exact ev_some ⟨by omega, m, rfl, by omega, p3, by show nI (0 + c) + 1 = nI (0 + (c + 1)); rw [nl1, nI_add]; rfl, p5, KK, K7, _, R1.kp r2 r3⟩
  · show cmb 0 (-2) (sp U (0 + 0) (13 - 0)) = _
    unfold cmb
    rw [if_pos rfl, Nat.zero_add]
theorem lowEnd2 : nI (12 + 1 - 13) - 1 < (0 : Int32) := by decide
theorem fitM2 {f : Fo} {s : Sc} {φ : Ph} {h : Hp} (R : RM f s φ h) {k p hs n P i : Nat} {a a4 a7 : Int32} (ea : a / 10 = nI k) (eb : a % 10 = nI p) (hk : k < 6) (hp : p < 6) (hh : hs < 12) (hn : n ≤ 60) (hP : P ≤ 60) (hi : i < foP f) (e80 : h.1 80 k = nI n) (p80 : h.1 80 p = nI P) {V W : Nat → Int32} (hV : ∀ j, j < 60 → (h.2.1 81 (60 * k + j)).toInt32 = V j) (hW : ∀ j, j < 60 → (h.2.1 81 (60 * p + j)).toInt32 = W j) {U : Nat → Bool} (hU : U = fun v => decide (fbad (badB V W (setFo f i 2 v) φ s hs (lead V (foW f) 0 (min 40 n))) 0 P = -2)) (h4 : ¬ 2 ≤ a4) : Ev (iter (b_X8_fits_109 a (nI hs) (nI i) a4 2 a7) FU (0, -2, nI (12 + 1) - 1, h)) fun u => u.1 = nI (sp U 0 13).1 ∧ u.2.1 = (sp U 0 13).2 ∧ Kp [56, 53, 54, 60, 61, 71, 72, 82] h u.2.2.2 ∧ NrC 56 i h u.2.2.2 ∧ (∀ j, u.2.2.2.1 53 j = h.1 53 j) ∧ ScM (foW f) s u.2.2.2 := by
  have hPw := R.2.2.1
  have h10 := hPw.1
  have h12 := hPw.2.1
  refine ev_for (k := 0) (fun c (u : Int32 × Int32 × Int32 × Hp) => u.1 = nI (sp U (12 + 1 - c) c).1 ∧ u.2.1 = (sp U (12 + 1 - c) c).2 ∧ u.2.2.1 = nI (12 + 1 - c) - 1 ∧ Kp [56, 53, 54, 60, 61, 71, 72, 82] h u.2.2.2 ∧ NrC 56 i h u.2.2.2 ∧ (∀ j, u.2.2.2.1 53 j = h.1 53 j) ∧ ∃ v', RM (setFo f i 2 v') s φ u.2.2.2) 13 (fun c u hc hu => ?_) ⟨rfl, rfl, rfl, Kp.refl R.1, NrC.refl, fun _ => rfl, foA f i, by rw [setFo_same2 rfl]; exact R⟩ (Nat.zero_le _) (by rw [FUe]; omega)
  obtain ⟨x1, x2, x3, g⟩ := u
  obtain ⟨p1, p2, p3, p4, p5, p6, v', p7⟩ := hu
  simp only at p1 p2 p3 p4 p5 p6 p7
  subst p1 p2 p3
  unfold b_X8_fits_109 j_X8_fits_122
  rw [if_neg h4]
  simp only
  by_cases z : 13 ≤ c
  · have hcT : c = 13 := by omega
    have e : sp U (12 + 1 - c) c = sp U 0 13 := by rw [hcT]
    have e2 : nI (12 + 1 - c) - 1 < (0 : Int32) := by rw [hcT]; exact lowEnd2
    rw [if_pos e2]
    exact ev_some ⟨by rw [e], by rw [e], p4, p5, p6, p7.2.2.2.2.2.1⟩
  · have hfit : FitV 2 (12 - c) := ⟨fun e => by omega, fun e => by omega, fun _ => by omega, fun e => by omega, fun e => by omega, fun e => by omega, fun e => by omega⟩
    rw [nl1, nI_sub (by omega), show 12 + 1 - c - 1 = 12 - c by omega, if_neg (nI_pos (by omega))]
    rw [show f_X8_becomes (nI i) 2 (nI (12 - c)) g = some (stI g 56 i (nI (12 - c))) from by unfold f_X8_becomes; rw [if_neg (by decide), if_neg (by decide), if_pos rfl, wr_56 (by omega)]; rfl]
    simp only [Option.bind_some]
    have R1 : RM (setFo f i 2 (12 - c)) s φ (stI g 56 i (nI (12 - c))) := by
      obtain ⟨q, hφ, ok, so, F, S, L⟩ := p7
      exact ⟨q, hφ, setFo_ok hPw hfit, so, foMs2 F, S.eq rfl rfl rfl rfl, L.eq rfl rfl rfl rfl rfl rfl⟩
    refine ev_call (unlike_m R1 ea eb hk hp hh hn hP (by show g.1 80 k = _; rw [p4.i 80 (by decide)]; exact e80) (by show g.1 80 p = _; rw [p4.i 80 (by decide)]; exact p80) (V := V) (W := W) (fun j hj => by show (g.2.1 81 _).toInt32 = _; rw [p4.l 81 (by decide)]; exact hV j hj) (fun j hj => by show (g.2.1 81 _).toInt32 = _; rw [p4.l 81 (by decide)]; exact hW j hj)) (fun r hr => ?_)
    obtain ⟨r1, r2, r3, r4⟩ := hr
    have KK : Kp [56, 53, 54, 60, 61, 71, 72, 82] h r.2 := (p4.st (by decide)).trans (r3.mono (by decide))
    have K7 : NrC 56 i h r.2 := (p5.st _).kp r3 (by decide)
    have K53 : ∀ j, r.2.1 53 j = h.1 53 j := fun j => by rw [r4 j]; exact p6 j
    have hUv : U (12 - c) = decide (r.1 = -2) := by rw [hU, r1]; rfl
    have hsp : sp U (12 + 1 - (c + 1)) (c + 1) = if U (12 - c) then ((sp U (12 + 1 - c) c).1 + 1, nI (12 - c)) else sp U (12 + 1 - c) c := by
      rw [show 12 + 1 - (c + 1) = 12 - c by omega, sp, show 12 - c + 1 = 12 + 1 - c by omega]
    by_cases q : r.1 = -2
    · rw [if_pos q]
      rw [hUv, if_pos (by rw [q]; rfl)] at hsp
      exact ev_some ⟨by omega, by rw [hsp, nI_add], by rw [hsp], by rw [show 12 + 1 - (c + 1) = 12 - c by omega], KK, K7, K53, _, r2⟩
    · rw [if_neg q]
      rw [hUv, if_neg (by simp [q])] at hsp
      exact ev_some ⟨by omega, by rw [hsp], by rw [hsp], by rw [show 12 + 1 - (c + 1) = 12 - c by omega], KK, K7, K53, _, r2⟩
/-- both sides, all else being so -/
theorem fits_go2 {f : Fo} {s : Sc} {φ : Ph} {b : Nat} {h : Hp} (R0A : RelA f s φ b h) {k p hs n P i : Nat} {a a4 : Int32} (ea : a / 10 = nI k) (eb : a % 10 = nI p) (hk : k < 6) (hp : p < 6) (hh : hs < 12) (hn : n ≤ 60) (hP : P ≤ 60) (hi : i < foP f) (e38 : h.1 38 k = nI n) (p38 : h.1 38 p = nI P) (e80 : h.1 80 k = nI n) (p80 : h.1 80 p = nI P) (y4 : RowS k h) (y5 : RowS p h) (h4 : ¬ 2 ≤ a4) : Ag (j_X7_fits_110b a (nI hs) (nI i) a4 1 h) (fun g => j_X8_fits_76 a (nI hs) (nI i) a4 2 g) ∧ ∀ r, j_X7_fits_110b a (nI hs) (nI i) a4 1 h = some r → Kp [11, 12, 17, 18, 19, 20] h r.2 := by
  have n10 : ¬ (1 : Int32) = 0 := by decide
  have h10 := R0A.1.2.2.1.1
  have h12 := R0A.1.2.2.1.2.1
  have oldX : h.1 3 i = nI (foA f i) := (R0A.2.1.1.2.2.1 i hi).2
  have oldM : h.1 56 i = nI (foA f i) := (R0A.2.1.2.1.2.2.1 i hi).2
  obtain ⟨V, hV⟩ : ∃ V : Nat → Int32, V = fun j => (h.2.1 (32 + k) j).toInt32 := ⟨_, rfl⟩
  obtain ⟨W, hW⟩ : ∃ W : Nat → Int32, W = fun j => (h.2.1 (32 + p) j).toInt32 := ⟨_, rfl⟩
  obtain ⟨U, hU⟩ : ∃ U : Nat → Bool, U = fun v => decide (fbad (badB V W (setFo f i 2 v) φ s hs (lead V (foW f) 0 (min 40 n))) 0 P = -2) := ⟨_, rfl⟩
  have KX : Ev (j_X7_fits_110b a (nI hs) (nI i) a4 1 h) fun r => r.1 = (if a4 % 2 = 0 then nI (sp U 0 13).1 else (sp U 0 13).2) ∧ Kp [11, 12, 17, 18, 19, 20] h r.2 ∧ Thk 17 r.2 := by
    unfold j_X7_fits_110b j_X7_fits_137b j_X7_fits_149b
    rw [rd_3 (by omega), oldX]
    simp only [Option.bind_some]
    rw [if_neg (by decide), if_neg (by decide)]
    refine ev_call (fitX2 R0A.rx ea eb hk hp hh hn hP hi e38 p38 (V := V) (W := W) (fun j _ => by rw [hV]) (fun j hj => by rw [hW]; exact y5.to32 j hj) hU) (fun u hu => ?_)
    obtain ⟨u1, u2, u3, u4, u5⟩ := hu
    rw [wr_3 (by omega)]
    simp only [Option.bind_some]
    have e6 : (stI u.2.2.2 3 i (nI (foA f i))).1 3 = h.1 3 := by
      funext j
      rw [stI_at, if_pos rfl]
      by_cases q : j = i
      · rw [if_pos q, q, oldX]
      · rw [if_neg q, u4.1 j q]
    have KK : Kp [11, 12, 17, 18, 19, 20] h (stI u.2.2.2 3 i (nI (foA f i))) := by
      have K1 : Kp [3, 11, 12, 17, 18, 19, 20] h (stI u.2.2.2 3 i (nI (foA f i))) := u3.st (by decide)
      refine ⟨K1.1, fun c hc => ?_⟩
      by_cases q : c = 3
      · subst q
        exact ⟨e6, u4.2.1, u4.2.2⟩
      · exact K1.2 c (by simp at hc ⊢; exact ⟨q, hc⟩)
    refine ev_if (fun q => ev_some ⟨by rw [if_pos q]; exact u1, KK, u5.eq rfl⟩) (fun q => ev_some ⟨by rw [if_neg q]; exact u2, KK, u5.eq rfl⟩)
  have KM : ∀ g, RelA f s φ b g → Kp [11, 12, 17, 18, 19, 20] h g → Ev (j_X8_fits_76 a (nI hs) (nI i) a4 2 g) fun r => r.1 = (if a4 % 2 = 0 then nI (sp U 0 13).1 else (sp U 0 13).2) ∧ Rel r.2 := by
    intro g RA K
    unfold j_X8_fits_76 j_X8_fits_107
    have oldG : g.1 56 i = nI (foA f i) := by rw [K.i 56 (by decide)]; exact oldM
    rw [show f_X8_get (nI i) 2 g = some (nI (foA f i)) from by unfold f_X8_get; rw [if_neg (by decide), if_neg (by decide), if_pos rfl, rd_56 (by omega), oldG]; rfl]
    simp only [Option.bind_some]
    rw [if_neg h4]
    refine ev_call (fitM2 RA.rm ea eb hk hp hh hn hP hi (by rw [K.i 80 (by decide)]; exact e80) (by rw [K.i 80 (by decide)]; exact p80) (V := V) (W := W) (fun j hj => by rw [K.l 81 (by decide), hV]; show _ = (h.2.1 (32 + k) j).toInt32; rw [y4.1 j hj]) (fun j hj => by rw [K.l 81 (by decide), hW]; show _ = (h.2.1 (32 + p) j).toInt32; rw [y5.1 j hj]) hU h4) (fun u hu => ?_)
    obtain ⟨u1, u2, u3, u4, u5, u6⟩ := hu
    rw [show f_X8_becomes (nI i) 2 (nI (foA f i)) u.2.2.2 = some (stI u.2.2.2 56 i (nI (foA f i))) from by unfold f_X8_becomes; rw [if_neg (by decide), if_neg (by decide), if_pos rfl, wr_56 (by omega)]; rfl]
    simp only [Option.bind_some]
    have e6 : (stI u.2.2.2 56 i (nI (foA f i))).1 56 = g.1 56 := by
      funext j
      rw [stI_at, if_pos rfl]
      by_cases q : j = i
      · rw [if_pos q, q, oldG]
      · rw [if_neg q, u4.1 j q]
    have KK : Kp [53, 54, 60, 61, 71, 72, 82] g (stI u.2.2.2 56 i (nI (foA f i))) := by
      have K1 : Kp [56, 53, 54, 60, 61, 71, 72, 82] g (stI u.2.2.2 56 i (nI (foA f i))) := u3.st (by decide)
      refine ⟨K1.1, fun c hc => ?_⟩
      by_cases q : c = 56
      · subst q
        exact ⟨e6, u4.2.1, u4.2.2⟩
      · exact K1.2 c (by simp at hc ⊢; exact ⟨q, hc⟩)
    have RR : Rel (stI u.2.2.2 56 i (nI (foA f i))) := ⟨f, s, φ, b, RA.up (KK.mono (by decide)) (fun j _ => u5 j) RA.1.2.2.2 (RA.2.1.2.2.1.eq (KK.i 13 (by decide)) (KK.i 14 (by decide)) (KK.i 15 (by decide))) (u6.eq rfl rfl rfl rfl) (RA.2.2.2.1.eq (KK.i 16 (by decide)) (KK.i 73 (by decide))) (RA.thk.eq (KK.i 17 (by decide)))⟩
    refine ev_if (fun q => ev_some ⟨by rw [if_pos q]; exact u1, RR⟩) (fun q => ev_some ⟨by rw [if_neg q]; exact u2, RR⟩)
  refine ⟨ev_mono KX (fun r hr => ?_), fun r hr => ?_⟩
  · refine ev_mono (KM r.2 (R0A.scr (hr.2.1.mono (by decide)) hr.2.2) hr.2.1) (fun t ht => ⟨by rw [hr.1, ht.1], ht.2⟩)
  · obtain ⟨r', e1, e2, e3, e4⟩ := KX
    rw [hr] at e1
    cases e1
    exact e3

theorem foXs3 {f : Fo} {g : Hp} {i v' v : Nat} (F : FoX (setFo f i 3 v') g) : FoX (setFo f i 3 v) (stI g 6 i (nI v)) := by
  obtain ⟨f1, f2, f3, f4⟩ := F
  refine ⟨f1, f2, f3, fun j hj => ⟨(f4 j hj).1, (f4 j hj).2.1, ?_⟩⟩
  have := (f4 j hj).2.2
  show (stI g 6 i (nI v)).1 6 j = nI (upN (foG f) i v j)
  have h2 : g.1 6 j = nI (upN (foG f) i v' j) := this
  rw [stI_at, if_pos rfl, upN_at]
  rw [upN_at] at h2
  by_cases q : j = i
  · rw [if_pos q, if_pos q]
  · rw [if_neg q, if_neg q, h2, if_neg q]
theorem foMs3 {f : Fo} {g : Hp} {i v' v : Nat} (F : FoM (setFo f i 3 v') g) : FoM (setFo f i 3 v) (stI g 59 i (nI v)) := by
  obtain ⟨f1, f2, f3, f4⟩ := F
  refine ⟨f1, f2, f3, fun j hj => ⟨(f4 j hj).1, (f4 j hj).2.1, ?_⟩⟩
  have := (f4 j hj).2.2
  show (stI g 59 i (nI v)).1 59 j = nI (upN (foG f) i v j)
  have h2 : g.1 59 j = nI (upN (foG f) i v' j) := this
  rw [stI_at, if_pos rfl, upN_at]
  rw [upN_at] at h2
  by_cases q : j = i
  · rw [if_pos q, if_pos q]
  · rw [if_neg q, if_neg q, h2, if_neg q]
theorem setFo_same3 {f : Fo} {i v : Nat} (h : foG f i = v) : setFo f i 3 v = f := by
  unfold setFo
  show (foP f, foW f, foH f, foA f, foB f, foT f, upN (foG f) i v) = f
  rw [upN_same h]; rfl
theorem fitX3 {f : Fo} {s : Sc} {φ : Ph} {h : Hp} (R : RX f s φ h) {k p hs n P i : Nat} {a a4 a8 : Int32} (ea : a / 10 = nI k) (eb : a % 10 = nI p) (hk : k < 6) (hp : p < 6) (hh : hs < 12) (hn : n ≤ 60) (hP : P ≤ 60) (hi : i < foW f) (e38 : h.1 38 k = nI n) (p38 : h.1 38 p = nI P) {V W : Nat → Int32} (hV : ∀ j, j < 60 → (h.2.1 (32 + k) j).toInt32 = V j) (hW : ∀ j, j < 60 → h.2.1 (32 + p) j = (W j).toInt64) {U : Nat → Bool} (hU : U = fun v => decide (fbad (badB V W (setFo f i 3 v) φ s hs (lead V (foW f) 0 (min 40 n))) 0 P = -2)) : Ev (iter (b_X7_fits_151 a (nI hs) (nI i) a4 a8 (nI 9)) FU (0, -2, nI 1, h)) fun u => u.1 = nI (sp U 1 9).1 ∧ u.2.1 = (sp U 1 9).2 ∧ Kp [6, 11, 12, 17, 18, 19, 20] h u.2.2.2 ∧ NrC 6 i h u.2.2.2 ∧ Thk 17 u.2.2.2 := by
  have hPw := R.2.2.1
  have h10 := hPw.1
  have h12 := hPw.2.1
  refine ev_for (k := 0) (fun c (u : Int32 × Int32 × Int32 × Hp) => ∃ m, u.1 = nI m ∧ m ≤ c ∧ (m = 0 → u.2.1 = -2) ∧ u.2.2.1 = nI (1 + c) ∧ cmb m u.2.1 (sp U (1 + c) (9 - c)) = sp U 1 9 ∧ Kp [6, 11, 12, 17, 18, 19, 20] h u.2.2.2 ∧ NrC 6 i h u.2.2.2 ∧ ∃ v', RX (setFo f i 3 v') s φ u.2.2.2) 9 (fun c u hc hu => ?_) ⟨0, rfl, Nat.le_refl _, fun _ => rfl, rfl, ?_, Kp.refl R.1, NrC.refl, foG f i, by rw [setFo_same3 rfl]; exact R⟩ (Nat.zero_le _) (by rw [FUe]; omega)
  · obtain ⟨x1, x2, x3, g⟩ := u
    obtain ⟨m, p1, p2, p3, p4, p5, p6, p7, v', p8⟩ := hu
    simp only at p1 p2 p3 p4 p5 p6 p7 p8
    subst p1 p4
    unfold b_X7_fits_151
    by_cases z : 9 ≤ c
    · rw [if_pos (nI_lt (by omega) (by omega))]
      rw [show 9 - c = 0 by omega] at p5
      refine ev_some ⟨?_, ?_, p6, p7, p8.2.2.2.2.2.2.2⟩
      · rw [← p5]; rfl
      · rw [← p5]
        show x2 = if m = 0 then -2 else x2
        split
        · rename_i q; exact p3 q
        · rfl
    · have hfit : FitV 3 (1 + c) := ⟨fun e => by omega, fun e => by omega, fun e => by omega, fun _ => by omega, fun e => by omega, fun e => by omega, fun e => by omega⟩
      rw [if_neg (nI_nlt (by omega) (by decide)), wr_6 (by omega)]
      simp only [Option.bind_some]
      rw [ea, eb]
      have R1 : RX (setFo f i 3 (1 + c)) s φ (stI g 6 i (nI (1 + c))) := by
        obtain ⟨q, hφ, ok, so, F, S, L, t⟩ := p8
        exact ⟨q, hφ, setFo_ok hPw hfit, so, foXs3 F, S.eq rfl rfl rfl, L.eq rfl rfl rfl rfl, t.eq rfl⟩
      refine ev_call (unlike_x R1 hk hp hh hn hP (by show g.1 38 k = _; rw [p6.i 38 (by decide)]; exact e38) (by show g.1 38 p = _; rw [p6.i 38 (by decide)]; exact p38) (V := V) (W := W) (fun j hj => by show (g.2.1 (32 + k) j).toInt32 = _; rw [p6.l (32 + k) (by simp; omega)]; exact hV j hj) (fun j hj => by show g.2.1 (32 + p) j = _; rw [p6.l (32 + p) (by simp; omega)]; exact hW j hj)) (fun r hr => ?_)
      obtain ⟨r1, r2, r3⟩ := hr
      have KK : Kp [6, 11, 12, 17, 18, 19, 20] h r.2 := (p6.st (by decide)).trans (r2.mono (by decide))
      have K7 : NrC 6 i h r.2 := (p7.st _).kp r2 (by decide)
      have hUv : U (1 + c) = decide (r.1 = -2) := by rw [hU, r1]; rfl
      rw [show 9 - c = (9 - (c + 1)) + 1 by omega] at p5
      by_cases q : r.1 = -2
      · rw [if_pos q]
        have hU1 : U (1 + c) = true := by rw [hUv, q]; rfl
        rw [← cmb_yes hU1] at p5
        by_cases z0 : m = 0
        · subst z0
          rw [if_pos rfl] at p5
          rw [if_pos (show nI 0 = (0 : Int32) from rfl)]
          exact ev_some ⟨by omega, 0 + 1, rfl, by omega, fun e => by omega, by show nI (1 + c) + 1 = nI (1 + (c + 1)); rw [nl1, nI_add]; rfl, p5, KK, K7, _, R1.kp r2 r3⟩
        · rw [if_neg z0] at p5
          rw [if_neg (by rw [nl0, nI_eq (by omega) (by decide)]; exact z0)]
          exact ev_some ⟨by omega, m + 1, by rw [nl1, nI_add], by omega, fun e => by omega, by show nI (1 + c) + 1 = nI (1 + (c + 1)); rw [nl1, nI_add]; rfl, p5, KK, K7, _, R1.kp r2 r3⟩
      · rw [if_neg q]
        have hU1 : U (1 + c) = false := by rw [hUv]; simp [q]
        rw [cmb_no hU1] at p5
        exact ev_some ⟨by omega, m, rfl, by omega, p3, by show nI (1 + c) + 1 = nI (1 + (c + 1)); rw [nl1, nI_add]; rfl, p5, KK, K7, _, R1.kp r2 r3⟩
  · show cmb 0 (-2) (sp U (1 + 0) (9 - 0)) = _
    unfold cmb
    rw [if_pos rfl, Nat.zero_add]
theorem lowEnd3 : nI (9 + 1 - 9) - 1 < (1 : Int32) := by decide
theorem fitM3 {f : Fo} {s : Sc} {φ : Ph} {h : Hp} (R : RM f s φ h) {k p hs n P i : Nat} {a a4 a7 : Int32} (ea : a / 10 = nI k) (eb : a % 10 = nI p) (hk : k < 6) (hp : p < 6) (hh : hs < 12) (hn : n ≤ 60) (hP : P ≤ 60) (hi : i < foW f) (e80 : h.1 80 k = nI n) (p80 : h.1 80 p = nI P) {V W : Nat → Int32} (hV : ∀ j, j < 60 → (h.2.1 81 (60 * k + j)).toInt32 = V j) (hW : ∀ j, j < 60 → (h.2.1 81 (60 * p + j)).toInt32 = W j) {U : Nat → Bool} (hU : U = fun v => decide (fbad (badB V W (setFo f i 3 v) φ s hs (lead V (foW f) 0 (min 40 n))) 0 P = -2)) (h4 :  2 ≤ a4) : Ev (iter (b_X8_fits_109 a (nI hs) (nI i) a4 3 a7) FU (0, -2, nI (9 + 1) - 1, h)) fun u => u.1 = nI (sp U 1 9).1 ∧ u.2.1 = (sp U 1 9).2 ∧ Kp [59, 53, 54, 60, 61, 71, 72, 82] h u.2.2.2 ∧ NrC 59 i h u.2.2.2 ∧ (∀ j, u.2.2.2.1 53 j = h.1 53 j) ∧ ScM (foW f) s u.2.2.2 := by
  have hPw := R.2.2.1
  have h10 := hPw.1
  have h12 := hPw.2.1
  refine ev_for (k := 0) (fun c (u : Int32 × Int32 × Int32 × Hp) => u.1 = nI (sp U (9 + 1 - c) c).1 ∧ u.2.1 = (sp U (9 + 1 - c) c).2 ∧ u.2.2.1 = nI (9 + 1 - c) - 1 ∧ Kp [59, 53, 54, 60, 61, 71, 72, 82] h u.2.2.2 ∧ NrC 59 i h u.2.2.2 ∧ (∀ j, u.2.2.2.1 53 j = h.1 53 j) ∧ ∃ v', RM (setFo f i 3 v') s φ u.2.2.2) 9 (fun c u hc hu => ?_) ⟨rfl, rfl, rfl, Kp.refl R.1, NrC.refl, fun _ => rfl, foG f i, by rw [setFo_same3 rfl]; exact R⟩ (Nat.zero_le _) (by rw [FUe]; omega)
  obtain ⟨x1, x2, x3, g⟩ := u
  obtain ⟨p1, p2, p3, p4, p5, p6, v', p7⟩ := hu
  simp only at p1 p2 p3 p4 p5 p6 p7
  subst p1 p2 p3
  unfold b_X8_fits_109 j_X8_fits_122
  rw [if_pos h4]
  simp only
  by_cases z : 9 ≤ c
  · have hcT : c = 9 := by omega
    have e : sp U (9 + 1 - c) c = sp U 1 9 := by rw [hcT]
    have e2 : nI (9 + 1 - c) - 1 < (1 : Int32) := by rw [hcT]; exact lowEnd3
    rw [if_pos e2]
    exact ev_some ⟨by rw [e], by rw [e], p4, p5, p6, p7.2.2.2.2.2.1⟩
  · have hfit : FitV 3 (9 - c) := ⟨fun e => by omega, fun e => by omega, fun e => by omega, fun _ => by omega, fun e => by omega, fun e => by omega, fun e => by omega⟩
    rw [nl1, nI_sub (by omega), show 9 + 1 - c - 1 = 9 - c by omega, if_neg (show ¬ nI (9 - c) < nI 1 from nI_nlt (show 1 ≤ 9 - c by omega) (show 9 - c < 2 ^ 31 by omega))]
    rw [show f_X8_becomes (nI i) 3 (nI (9 - c)) g = some (stI g 59 i (nI (9 - c))) from by unfold f_X8_becomes; rw [if_neg (by decide), if_neg (by decide), if_neg (by decide), if_pos rfl, wr_59 (by omega)]; rfl]
    simp only [Option.bind_some]
    have R1 : RM (setFo f i 3 (9 - c)) s φ (stI g 59 i (nI (9 - c))) := by
      obtain ⟨q, hφ, ok, so, F, S, L⟩ := p7
      exact ⟨q, hφ, setFo_ok hPw hfit, so, foMs3 F, S.eq rfl rfl rfl rfl, L.eq rfl rfl rfl rfl rfl rfl⟩
    refine ev_call (unlike_m R1 ea eb hk hp hh hn hP (by show g.1 80 k = _; rw [p4.i 80 (by decide)]; exact e80) (by show g.1 80 p = _; rw [p4.i 80 (by decide)]; exact p80) (V := V) (W := W) (fun j hj => by show (g.2.1 81 _).toInt32 = _; rw [p4.l 81 (by decide)]; exact hV j hj) (fun j hj => by show (g.2.1 81 _).toInt32 = _; rw [p4.l 81 (by decide)]; exact hW j hj)) (fun r hr => ?_)
    obtain ⟨r1, r2, r3, r4⟩ := hr
    have KK : Kp [59, 53, 54, 60, 61, 71, 72, 82] h r.2 := (p4.st (by decide)).trans (r3.mono (by decide))
    have K7 : NrC 59 i h r.2 := (p5.st _).kp r3 (by decide)
    have K53 : ∀ j, r.2.1 53 j = h.1 53 j := fun j => by rw [r4 j]; exact p6 j
    have hUv : U (9 - c) = decide (r.1 = -2) := by rw [hU, r1]; rfl
    have hsp : sp U (9 + 1 - (c + 1)) (c + 1) = if U (9 - c) then ((sp U (9 + 1 - c) c).1 + 1, nI (9 - c)) else sp U (9 + 1 - c) c := by
      rw [show 9 + 1 - (c + 1) = 9 - c by omega, sp, show 9 - c + 1 = 9 + 1 - c by omega]
    by_cases q : r.1 = -2
    · rw [if_pos q]
      rw [hUv, if_pos (by rw [q]; rfl)] at hsp
      exact ev_some ⟨by omega, by rw [hsp, nI_add], by rw [hsp], by rw [show 9 + 1 - (c + 1) = 9 - c by omega], KK, K7, K53, _, r2⟩
    · rw [if_neg q]
      rw [hUv, if_neg (by simp [q])] at hsp
      exact ev_some ⟨by omega, by rw [hsp], by rw [hsp], by rw [show 9 + 1 - (c + 1) = 9 - c by omega], KK, K7, K53, _, r2⟩
/-- both sides, all else being so -/
theorem fits_go3 {f : Fo} {s : Sc} {φ : Ph} {b : Nat} {h : Hp} (R0A : RelA f s φ b h) {k p hs n P i : Nat} {a a4 : Int32} (ea : a / 10 = nI k) (eb : a % 10 = nI p) (hk : k < 6) (hp : p < 6) (hh : hs < 12) (hn : n ≤ 60) (hP : P ≤ 60) (hi : i < foW f) (e38 : h.1 38 k = nI n) (p38 : h.1 38 p = nI P) (e80 : h.1 80 k = nI n) (p80 : h.1 80 p = nI P) (y4 : RowS k h) (y5 : RowS p h) (h4 :  2 ≤ a4) : Ag (j_X7_fits_110 a (nI hs) (nI i) a4 0 h) (fun g => j_X8_fits_76 a (nI hs) (nI i) a4 3 g) ∧ ∀ r, j_X7_fits_110 a (nI hs) (nI i) a4 0 h = some r → Kp [11, 12, 17, 18, 19, 20] h r.2 := by
  have n10 : ¬ (1 : Int32) = 0 := by decide
  have h10 := R0A.1.2.2.1.1
  have h12 := R0A.1.2.2.1.2.1
  have oldX : h.1 6 i = nI (foG f i) := (R0A.2.1.1.2.2.2 i hi).2.2
  have oldM : h.1 59 i = nI (foG f i) := (R0A.2.1.2.1.2.2.2 i hi).2.2
  obtain ⟨V, hV⟩ : ∃ V : Nat → Int32, V = fun j => (h.2.1 (32 + k) j).toInt32 := ⟨_, rfl⟩
  obtain ⟨W, hW⟩ : ∃ W : Nat → Int32, W = fun j => (h.2.1 (32 + p) j).toInt32 := ⟨_, rfl⟩
  obtain ⟨U, hU⟩ : ∃ U : Nat → Bool, U = fun v => decide (fbad (badB V W (setFo f i 3 v) φ s hs (lead V (foW f) 0 (min 40 n))) 0 P = -2) := ⟨_, rfl⟩
  have KX : Ev (j_X7_fits_110 a (nI hs) (nI i) a4 0 h) fun r => r.1 = (if a4 % 2 = 0 then nI (sp U 1 9).1 else (sp U 1 9).2) ∧ Kp [11, 12, 17, 18, 19, 20] h r.2 ∧ Thk 17 r.2 := by
    unfold j_X7_fits_110 j_X7_fits_137 j_X7_fits_149
    rw [rd_6 (by omega), oldX]
    simp only [Option.bind_some]
    simp only [if_true]
    refine ev_call (fitX3 R0A.rx ea eb hk hp hh hn hP hi e38 p38 (V := V) (W := W) (fun j _ => by rw [hV]) (fun j hj => by rw [hW]; exact y5.to32 j hj) hU) (fun u hu => ?_)
    obtain ⟨u1, u2, u3, u4, u5⟩ := hu
    rw [wr_6 (by omega)]
    simp only [Option.bind_some]
    have e6 : (stI u.2.2.2 6 i (nI (foG f i))).1 6 = h.1 6 := by
      funext j
      rw [stI_at, if_pos rfl]
      by_cases q : j = i
      · rw [if_pos q, q, oldX]
      · rw [if_neg q, u4.1 j q]
    have KK : Kp [11, 12, 17, 18, 19, 20] h (stI u.2.2.2 6 i (nI (foG f i))) := by
      have K1 : Kp [6, 11, 12, 17, 18, 19, 20] h (stI u.2.2.2 6 i (nI (foG f i))) := u3.st (by decide)
      refine ⟨K1.1, fun c hc => ?_⟩
      by_cases q : c = 6
      · subst q
        exact ⟨e6, u4.2.1, u4.2.2⟩
      · exact K1.2 c (by simp at hc ⊢; exact ⟨q, hc⟩)
    refine ev_if (fun q => ev_some ⟨by rw [if_pos q]; exact u1, KK, u5.eq rfl⟩) (fun q => ev_some ⟨by rw [if_neg q]; exact u2, KK, u5.eq rfl⟩)
  have KM : ∀ g, RelA f s φ b g → Kp [11, 12, 17, 18, 19, 20] h g → Ev (j_X8_fits_76 a (nI hs) (nI i) a4 3 g) fun r => r.1 = (if a4 % 2 = 0 then nI (sp U 1 9).1 else (sp U 1 9).2) ∧ Rel r.2 := by
    intro g RA K
    unfold j_X8_fits_76 j_X8_fits_107
    have oldG : g.1 59 i = nI (foG f i) := by rw [K.i 59 (by decide)]; exact oldM
    rw [show f_X8_get (nI i) 3 g = some (nI (foG f i)) from by unfold f_X8_get; rw [if_neg (by decide), if_neg (by decide), if_neg (by decide), if_pos rfl, rd_59 (by omega), oldG]; rfl]
    simp only [Option.bind_some]
    rw [if_pos h4]
    refine ev_call (fitM3 RA.rm ea eb hk hp hh hn hP hi (by rw [K.i 80 (by decide)]; exact e80) (by rw [K.i 80 (by decide)]; exact p80) (V := V) (W := W) (fun j hj => by rw [K.l 81 (by decide), hV]; show _ = (h.2.1 (32 + k) j).toInt32; rw [y4.1 j hj]) (fun j hj => by rw [K.l 81 (by decide), hW]; show _ = (h.2.1 (32 + p) j).toInt32; rw [y5.1 j hj]) hU h4) (fun u hu => ?_)
    obtain ⟨u1, u2, u3, u4, u5, u6⟩ := hu
    rw [show f_X8_becomes (nI i) 3 (nI (foG f i)) u.2.2.2 = some (stI u.2.2.2 59 i (nI (foG f i))) from by unfold f_X8_becomes; rw [if_neg (by decide), if_neg (by decide), if_neg (by decide), if_pos rfl, wr_59 (by omega)]; rfl]
    simp only [Option.bind_some]
    have e6 : (stI u.2.2.2 59 i (nI (foG f i))).1 59 = g.1 59 := by
      funext j
      rw [stI_at, if_pos rfl]
      by_cases q : j = i
      · rw [if_pos q, q, oldG]
      · rw [if_neg q, u4.1 j q]
    have KK : Kp [53, 54, 60, 61, 71, 72, 82] g (stI u.2.2.2 59 i (nI (foG f i))) := by
      have K1 : Kp [59, 53, 54, 60, 61, 71, 72, 82] g (stI u.2.2.2 59 i (nI (foG f i))) := u3.st (by decide)
      refine ⟨K1.1, fun c hc => ?_⟩
      by_cases q : c = 59
      · subst q
        exact ⟨e6, u4.2.1, u4.2.2⟩
      · exact K1.2 c (by simp at hc ⊢; exact ⟨q, hc⟩)
    have RR : Rel (stI u.2.2.2 59 i (nI (foG f i))) := ⟨f, s, φ, b, RA.up (KK.mono (by decide)) (fun j _ => u5 j) RA.1.2.2.2 (RA.2.1.2.2.1.eq (KK.i 13 (by decide)) (KK.i 14 (by decide)) (KK.i 15 (by decide))) (u6.eq rfl rfl rfl rfl) (RA.2.2.2.1.eq (KK.i 16 (by decide)) (KK.i 73 (by decide))) (RA.thk.eq (KK.i 17 (by decide)))⟩
    refine ev_if (fun q => ev_some ⟨by rw [if_pos q]; exact u1, RR⟩) (fun q => ev_some ⟨by rw [if_neg q]; exact u2, RR⟩)
  refine ⟨ev_mono KX (fun r hr => ?_), fun r hr => ?_⟩
  · refine ev_mono (KM r.2 (R0A.scr (hr.2.1.mono (by decide)) hr.2.2) hr.2.1) (fun t ht => ⟨by rw [hr.1, ht.1], ht.2⟩)
  · obtain ⟨r', e1, e2, e3, e4⟩ := KX
    rw [hr] at e1
    cases e1
    exact e3

theorem a_fits (v w u y : Int32) (h : Hp) (R : Rel h) : Ag (f_X7_fits v w u y h) (f_X8_fits v w u y) := by
  have R0 := R
  obtain ⟨f, s, φ, b, R0A⟩ := R
  have n10 : ¬ (1 : Int32) = 0 := by decide
  have r15 := R0A.2.2.2.2.2.2.2.1
  have hb := R0A.2.2.2.2.2.2.2.2.1
  obtain ⟨r5, r6, r7, r8⟩ := R0A.2.1
  have r3 := R0A.1.2.2.1
  rcases shelves_c v with ⟨k, p, hk, hp, ea, eb, e1, e2⟩ | ⟨e1, e2⟩
  rotate_left
  · refine ag_same R0 (v := -1) ?_ ?_
    · unfold f_X7_fits; rw [e1]; rfl
    · unfold f_X8_fits; rw [e2]; rfl
  obtain ⟨w1, n, w2, w3, w4⟩ := r15 k hk
  obtain ⟨x1, P, x2, x3, x4⟩ := r15 p hp
  have hne : ∀ v : Int32, v = 0 ∨ v = -11 ∨ v = -12 → ¬ v = -1 := by
    intro v hv
    rcases hv with rfl | rfl | rfl <;> decide
  obtain ⟨nr, nr1, nr2⟩ : ∃ nr : Int32, (nr = 0 ∨ nr = -11 ∨ nr = -12) ∧ f_X8_noRows v h = some nr := by
    rcases painted_c hb hk hp w1 x1 ea eb e2 with ⟨z, z1, z2, z3⟩ | ⟨z2, z3, _⟩
    · exact ⟨z, Or.inr z1, z3⟩
    · exact ⟨0, Or.inl rfl, z3⟩
  have hnr := hne nr nr1
  rcases house_c w with ⟨hs, hh, rfl, e3, e4⟩ | ⟨e3, e4⟩
  rotate_left
  · refine ag_same R0 (v := -1) ?_ ?_
    · unfold f_X7_fits; rw [e1]; simp only [Option.bind_some, if_neg n10]; rw [e3]; rfl
    · unfold f_X8_fits; rw [nr2]; simp only [Option.bind_some]; rw [if_neg hnr, e4]; rfl
  rcases quarter_c y with ⟨q, hq, rfl, e6, c1, c2⟩ | ⟨e6, c1⟩
  rotate_left
  · refine ag_same R0 (v := -1) ?_ ?_
    · unfold f_X7_fits; rw [e1]; simp only [Option.bind_some, if_neg n10]; rw [e3]; simp only [Option.bind_some, if_neg n10]
      rcases c1 with c1 | c1
      · rw [if_pos c1]
      · split
        · rfl
        · rfl
    · unfold f_X8_fits; rw [nr2]; simp only [Option.bind_some]; rw [if_neg hnr, e4]; simp only [Option.bind_some, if_neg n10]; rw [e6]; rfl
  have H7 : f_X7_fits v (nI hs) u (nI q) h = if 2 ≤ nI q then j_X7_fits_39 v (nI hs) u (nI q) 0 h else j_X7_fits_39 v (nI hs) u (nI q) 1 h := by
    unfold f_X7_fits; rw [e1]; simp only [Option.bind_some, if_neg n10]; rw [e3]; simp only [Option.bind_some, if_neg n10]; rw [if_neg c1, if_pos c2]
  have H8 : ∀ g : Hp, g.1 79 = h.1 79 → f_X8_fits v (nI hs) u (nI q) g = if 2 ≤ nI q then (f_X8_isWrong u g).bind fun r8 => if r8 = 0 then some (-1, g) else j_X8_fits_57 v (nI hs) u (nI q) nr g else (f_X8_isOne u g).bind fun r22 => if r22 = 0 then some (-1, g) else j_X8_fits_57 v (nI hs) u (nI q) nr g := by
    intro g hg
    unfold f_X8_fits; rw [noRows_eq v hg, nr2]; simp only [Option.bind_some]; rw [if_neg hnr, e4]; simp only [Option.bind_some, if_neg n10]; rw [e6]; simp only [Option.bind_some, if_neg n10]
  by_cases z : 2 ≤ nI q
  · rw [H7, if_pos z]
    unfold j_X7_fits_39
    rw [if_pos rfl]
    rcases wrong_c r3 r5 r6 u with ⟨i, hi, rfl, e7, e8⟩ | ⟨e7, e8⟩
    rotate_left
    · refine ag_same R0 (v := -1) ?_ ?_
      · rw [e7]; rfl
      · rw [H8 h rfl, if_pos z, e8]; rfl
    rw [e7]
    simp only [Option.bind_some, if_neg n10]
    unfold j_X7_fits_73
    rcases painted_c hb hk hp w1 x1 ea eb e2 with ⟨y', y1, y2, y3⟩ | ⟨y2, y3, y4, y5⟩
    · rw [nr2] at y3
      cases y3
      refine ag_same R0 (v := nr) ?_ ?_
      · rw [y2]; simp only [Option.bind_some]
        rcases y1 with rfl | rfl <;> rfl
      · rw [H8 h rfl, if_pos z, e8]; simp only [Option.bind_some, if_neg n10]
        unfold j_X8_fits_57
        rcases y1 with rfl | rfl <;> rfl
    · rw [nr2] at y3
      cases y3
      rw [y2]
      simp only [Option.bind_some, if_true]
      obtain ⟨G, GK⟩ := fits_go3 R0A ea eb hk hp hh w2 x2 hi w3 x3 w4 x4 y4 y5 z
      obtain ⟨r, q1, q2⟩ := G
      refine ⟨r, q1, ?_⟩
      have K := GK r q1
      simp only
      rw [H8 r.2 (K.i 79 (by decide)), if_pos z]
      have e9 : f_X8_isWrong (nI i) r.2 = some 1 := by
        rw [← e8]; unfold f_X8_isWrong; rw [K.i 53 (by decide)]
      rw [e9]
      simp only [Option.bind_some, if_neg n10]
      unfold j_X8_fits_57
      rw [if_pos (by decide), if_pos z]
      exact q2
  · rw [H7, if_neg z]
    unfold j_X7_fits_39
    rw [if_neg n10]
    rcases one_c r3 r5 r6 u with ⟨i, hi, rfl, e7, e8⟩ | ⟨e7, e8⟩
    rotate_left
    · refine ag_same R0 (v := -1) ?_ ?_
      · rw [e7]; rfl
      · rw [H8 h rfl, if_neg z, e8]; rfl
    rw [e7]
    simp only [Option.bind_some, if_neg n10]
    unfold j_X7_fits_73
    rcases painted_c hb hk hp w1 x1 ea eb e2 with ⟨y', y1, y2, y3⟩ | ⟨y2, y3, y4, y5⟩
    · rw [nr2] at y3
      cases y3
      refine ag_same R0 (v := nr) ?_ ?_
      · rw [y2]; simp only [Option.bind_some]
        rcases y1 with rfl | rfl <;> rfl
      · rw [H8 h rfl, if_neg z, e8]; simp only [Option.bind_some, if_neg n10]
        unfold j_X8_fits_57
        rcases y1 with rfl | rfl <;> rfl
    · rw [nr2] at y3
      cases y3
      rw [y2]
      simp only [Option.bind_some, if_true, if_neg n10]
      obtain ⟨G, GK⟩ := fits_go2 R0A ea eb hk hp hh w2 x2 hi w3 x3 w4 x4 y4 y5 z
      obtain ⟨r, q1, q2⟩ := G
      refine ⟨r, q1, ?_⟩
      have K := GK r q1
      simp only
      rw [H8 r.2 (K.i 79 (by decide)), if_neg z]
      have e9 : f_X8_isOne (nI i) r.2 = some 1 := by
        rw [← e8]; unfold f_X8_isOne; rw [K.i 53 (by decide)]
      rw [e9]
      simp only [Option.bind_some, if_neg n10]
      unfold j_X8_fits_57
      rw [if_pos (by decide), if_neg z]
      exact q2
