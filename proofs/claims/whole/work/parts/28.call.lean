theorem isForg_x {w o : Nat} {s : Sc} {h : Hp} (ho : OkO o) (hw : w ≤ 12) (S : ScX w s o h) {i : Nat} (hi : i < w) : f_X5_isForgiven o (nI i) h = some (nI (bI (scF s i))) := by
  unfold f_X5_isForgiven
  rw [if_pos ho.1, S.2.2.1, show ((nI (msk (scF s) w) >>> (nI i &&& 31)) &&& (1 : Int32)) = nI (bI ((msk (scF s) w).testBit i)) from bit_rd (msk_lt12 hw) (by omega), msk_bit]
  simp only [hi, decide_true, Bool.true_and]
  cases scF s i <;> rfl
theorem setF1 {w o : Nat} {s : Sc} {h : Hp} (ho : OkO o) (hw : w ≤ 12) (S : ScX w s o h) {i : Nat} (hi : i < w) : f_X5_setForgiven o (nI i) 1 h = some (stI h o 3 (nI (msk (upN (scF s) i true) w))) := by
  unfold f_X5_setForgiven
  rw [if_pos ho.1, if_neg (by decide), S.2.2.1, show nI (msk (scF s) w) ||| ((1 : Int32) <<< (nI i &&& 31)) = _ from bit_or (msk_lt12 hw) (show i < 12 by omega), msk_set hi]
  rfl
theorem upN_same {α : Type} {f : Nat → α} {k : Nat} {v : α} (h : f k = v) : upN f k v = f := funext fun i => by
  unfold upN
  split
  · rename_i e; rw [e, h]
  · rfl
theorem setF0 {w o : Nat} {s : Sc} {h : Hp} (ho : OkO o) (hw : w ≤ 12) (S : ScX w s o h) {i : Nat} (hi : i < w) : f_X5_setForgiven o (nI i) 0 h = some (stI h o 3 (nI (msk (upN (scF s) i false) w))) := by
  unfold f_X5_setForgiven
  rw [if_pos ho.1, if_pos rfl, S.2.2.1, show nI (msk (scF s) w) &&& (((1 : Int32) <<< (nI i &&& 31)) ^^^ (-1)) = _ from bit_clr (msk_lt12 hw) (show i < 12 by omega), msk_bit]
  simp only [hi, decide_true, Bool.true_and]
  cases e : scF s i with
  | true => rw [if_pos rfl, msk_clr hi e]; rfl
  | false => rw [upN_same e]; rfl
theorem kp_in {L : List Nat} {h h' : Hp} (q : LR h) (F : FW (fun k => L.contains k) h h') : Kp L h h' := F q
theorem OkO.ne {o : Nat} (ho : OkO o) : pf o 0 ≠ o ∧ pf o 1 ≠ o ∧ pf o 1 ≠ pf o 0 := by
  refine ⟨fun e => ?_, fun e => ?_, fun e => ?_⟩
  · have := ho.2.2.2.2.1; rw [e] at this; simp at this
  · have := ho.2.2.2.2.2; rw [e] at this; simp at this
  · have := ho.2.2.2.2.2; rw [e] at this; simp at this
theorem OkO.out {o : Nat} (ho : OkO o) {c : Nat} (hc : [1, 2, 3, 4, 5, 6, 7, 9, 10, 11, 12].contains c = true) : c ≠ o ∧ c ≠ pf o 0 ∧ c ≠ pf o 1 := by
  refine ⟨fun e => ?_, fun e => ?_, fun e => ?_⟩
  · have := ho.2.2.2.1; rw [← e, hc] at this; cases this
  · have := ho.2.2.2.2.1; rw [← e] at this; simp at this hc; omega
  · have := ho.2.2.2.2.2; rw [← e] at this; simp at this hc; omega
theorem worth_k {f : Fo} {φ : Ph} {s : Sc} {o : Nat} {h : Hp} (ho : OkO o) (q : LR h) (ok : FoOk f) (so : ScOk (foW f) s) (F : FoX f h) (S : ScX (foW f) s o h) (L : LawX φ h) {i hs : Nat} (hi : i < foW f) (hh : hs < 12) : Ev (f_X7_worth o (nI i) (nI hs) h) fun r => r.1 = nI (cnt f φ s i hs) ∧ Kp [11, 12] h r.2 := ev_kp (hp := fun r => r.2) q (worth_x ho q ok so F S L hi hh) fun r e => fr_X7_worth (by decide) _ _ _ h r e
theorem cal_ok {f : Fo} {φ : Ph} {s : Sc} {w : Nat} (so : ScOk w s) {i hs : Nat} : ScOk w (cal f φ s i hs) := by
  unfold cal
  split
  · exact so
  · refine ⟨fun j hj => ?_, so.2.1, so.2.2⟩
    show upN _ _ _ _ ≤ 999
    unfold upN
    split
    · exact Nat.min_le_left _ _
    · exact so.1 j hj
theorem forgive_x {f : Fo} {φ : Ph} {s : Sc} {o : Nat} {h : Hp} (ho : OkO o) (q : LR h) (hφ : PhOk φ) (ok : FoOk f) (so : ScOk (foW f) s) (F : FoX f h) (S : ScX (foW f) s o h) (L : LawX φ h) {i hs : Nat} (hi : i < foW f) (hh : hs < 12) : Ev (f_X7_forgive o (nI i) (nI hs) h) fun r => r.1 = nI (calN f φ s i hs) ∧ ScX (foW f) (cal f φ s i hs) o r.2 ∧ Kp [11, 12, o, pf o 0] h r.2 := by
  have hk : ∀ r, f_X7_forgive o (nI i) (nI hs) h = some r → Kp [11, 12, o, pf o 0] h r.2 := fun r e => kp_in q (fr_X7_forgive (by simp [L_X7_forgive]) _ _ _ _ (by simp) (by simp) r e)
  have key : Ev (f_X7_forgive o (nI i) (nI hs) h) fun r => r.1 = nI (calN f φ s i hs) ∧ ScX (foW f) (cal f φ s i hs) o r.2 := by
    have hw := ok.2.1
    unfold f_X7_forgive
    rw [if_pos ho.1, isForg_x ho hw S hi]
    simp only [Option.bind_some]
    cases e : scF s i with
    | true =>
      rw [if_neg (by decide)]
      refine ev_some ⟨?_, ?_⟩
      · unfold calN; rw [if_pos e]; rfl
      · unfold cal calN; rw [if_pos e, if_pos rfl]; exact S
    | false =>
      rw [if_pos (show nI (bI false) = 0 from rfl)]
      refine ev_call (worth_k ho q ok so F S L hi hh) (fun v hv => ?_)
      obtain ⟨v1, v2⟩ := hv
      have hc : cnt f φ s i hs ≤ 9 := hφ _ _ _ _ _ _
      have hcal : calN f φ s i hs = cnt f φ s i hs := by unfold calN; rw [e]; rfl
      have o11 := ho.out (c := 11) (by decide)
      have o12 := ho.out (c := 12) (by decide)
      have S1 : ScX (foW f) s o v.2 := S.kp v2 (by simp [o11.1.symm, o12.1.symm]) (by simp [o11.2.1.symm, o12.2.1.symm]) (by simp [o11.2.2.symm, o12.2.2.symm])
      rw [v1]
      by_cases z : cnt f φ s i hs = 0
      · rw [if_pos (by rw [z]; rfl)]
        refine ev_some ⟨by rw [hcal, z]; rfl, ?_⟩
        unfold cal
        rw [hcal, if_pos z]
        exact S1
      · rw [if_neg (by rw [nl0, nI_eq (by omega) (by decide)]; exact z), setF1 ho hw S1 hi]
        simp only [Option.bind_some]
        have hn := ho.ne
        rw [rdI_n (by rw [ho.2.1]; exact hh) (by rw [ho.2.1]; decide)]
        simp only [Option.bind_some]
        rw [wrI_n (by rw [ho.2.1]; exact hh) (by rw [ho.2.1]; decide)]
        simp only [Option.bind_some]
        have h9 := so.1 hs hh
        rw [stI_at, if_neg hn.1, S1.1 hs hh, nI_add, nl999, nI_min (by omega) (by omega)]
        refine ev_some ⟨by rw [hcal], ?_⟩
        unfold cal
        rw [hcal, if_neg z]
        refine ⟨fun j hj => ?_, fun j hj => ?_, ?_, ?_⟩
        · show (stI _ _ _ _).1 _ _ = nI (upN _ _ _ _)
          rw [stI_at, if_pos rfl]
          unfold upN
          by_cases e : j = hs
          · rw [if_pos e, if_pos e]
          · rw [if_neg e, if_neg e, stI_at, if_neg hn.1, S1.1 j hj]
        · rw [stI_at, if_neg hn.2.2, stI_at, if_neg hn.2.1, S1.2.1 j hj]; rfl
        · rw [stI_at, if_neg hn.1.symm, stI_at, if_pos rfl, if_pos rfl]; rfl
        · rw [stI_at, if_neg hn.1.symm, stI_at, if_pos rfl, if_neg (by decide), S1.2.2.2]; rfl
  obtain ⟨r, h1, h2⟩ := key
  exact ⟨r, h1, h2.1, h2.2, hk r h1⟩
theorem count_k {f : Fo} {φ : Ph} {s : Sc} {h : Hp} (q : LR h) (ok : FoOk f) (so : ScOk (foW f) s) (F : FoM f h) (S : ScM (foW f) s h) (L : LawM φ h) {i hs : Nat} (hi : i < foW f) (hh : hs < 12) : Ev (f_X8_countOf (nI i) (nI hs) h) fun r => r.1 = nI (cnt f φ s i hs) ∧ Kp [71, 72] h r.2 := ev_kp (hp := fun r => r.2) q (count_m ok so F S L hi hh) fun r e => fr_X8_countOf (by decide) _ _ h r e
theorem calls_m {f : Fo} {φ : Ph} {s : Sc} {h : Hp} (q : LR h) (hφ : PhOk φ) (ok : FoOk f) (so : ScOk (foW f) s) (F : FoM f h) (S : ScM (foW f) s h) (L : LawM φ h) {i hs : Nat} (hi : i < foW f) (hh : hs < 12) : Ev (f_X8_calls (nI i) (nI hs) h) fun r => r.1 = nI (calN f φ s i hs) ∧ ScM (foW f) (cal f φ s i hs) r.2 ∧ Kp [54, 61, 71, 72] h r.2 := by
  have hk : ∀ r, f_X8_calls (nI i) (nI hs) h = some r → Kp [54, 61, 71, 72] h r.2 := fun r e => kp_in q (fr_X8_calls (by decide) _ _ _ r e)
  have key : Ev (f_X8_calls (nI i) (nI hs) h) fun r => r.1 = nI (calN f φ s i hs) ∧ ScM (foW f) (cal f φ s i hs) r.2 := by
    have hw := ok.2.1
    unfold f_X8_calls
    rw [rd_61 (by omega), S.2.2.1 i hi]
    simp only [Option.bind_some]
    cases e : scF s i with
    | true =>
      rw [if_pos (show nI (bI true) = 1 from rfl)]
      unfold j_X8_calls_20
      rw [if_pos rfl]
      refine ev_some ⟨?_, ?_⟩
      · unfold calN; rw [if_pos e]; rfl
      · unfold cal calN; rw [if_pos e, if_pos rfl]; exact S
    | false =>
      rw [if_neg (by decide)]
      refine ev_call (count_k q ok so F S L hi hh) (fun v hv => ?_)
      obtain ⟨v1, v2⟩ := hv
      have hc : cnt f φ s i hs ≤ 9 := hφ _ _ _ _ _ _
      have hcal : calN f φ s i hs = cnt f φ s i hs := by unfold calN; rw [e]; rfl
      have S1 : ScM (foW f) s v.2 := S.kp v2 (by rw [v2.i 53 (by decide)]) (by decide)
      unfold j_X8_calls_20
      rw [v1]
      by_cases z : cnt f φ s i hs = 0
      · rw [if_pos (by rw [z]; rfl)]
        refine ev_some ⟨by rw [hcal, z]; rfl, ?_⟩
        unfold cal
        rw [hcal, if_pos z]
        exact S1
      · rw [if_neg (by rw [nl0, nI_eq (by omega) (by decide)]; exact z), wr_61 (by omega)]
        simp only [Option.bind_some]
        rw [rd_54 hh]
        simp only [Option.bind_some]
        rw [wr_54 hh]
        simp only [Option.bind_some]
        have h9 := so.1 hs hh
        rw [stI_at, if_neg (by decide), S1.1 hs hh, nI_add, nl999, nI_min (by omega) (by omega)]
        refine ev_some ⟨by rw [hcal], ?_⟩
        unfold cal
        rw [hcal, if_neg z]
        refine ⟨fun j hj => ?_, fun j hj => ?_, fun j hj => ?_, ?_⟩
        · show (stI _ _ _ _).1 _ _ = nI (upN _ _ _ _)
          rw [stI_at, if_pos rfl]
          unfold upN
          by_cases e : j = hs
          · rw [if_pos e, if_pos e]
          · rw [if_neg e, if_neg e, stI_at, if_neg (by decide), S1.1 j hj]
        · rw [stI_at, if_neg (by decide), stI_at, if_neg (by decide), S1.2.1 j hj]; rfl
        · show _ = nI (bI (upN _ _ _ _))
          rw [stI_at, if_neg (by decide), stI_at, if_pos rfl]
          unfold upN
          by_cases e : j = i
          · rw [if_pos e, if_pos e]; rfl
          · rw [if_neg e, if_neg e, S1.2.2.1 j hj]
        · rw [stI_at, if_neg (by decide), stI_at, if_neg (by decide), S1.2.2.2]; rfl
  obtain ⟨r, h1, h2⟩ := key
  exact ⟨r, h1, h2.1, h2.2, hk r h1⟩
