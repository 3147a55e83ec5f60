set_option maxHeartbeats 8000000 in
set_option maxRecDepth 100000 in
/-- from the law's entry, for every script of at most 3072 ints, the law comes to its end with true -/
theorem whole_start {p : Program} {e : Env} {s : State} {m : MethodId} {below : List Frame} {meth : Method} {c : Code} (l : Launch) (hflags : l.flags = flags0) {b L : Nat} {xs : Nat → Int32} (hL : L ≤ 3072) (C0 : lw_At p s m meth c b L xs) : W p l e room_1 s m #[Value.ref b] below meth c s.heap [] 0 0 (lw_Z below #[Value.ref b] s) (entryFrame m ([Value.ref b] : List Value).toArray 4) := by
  obtain ⟨hx, hb, hr, hml, hown, hts0, hX, hbl, hlocks, hgv⟩ := id C0
  have hts : ∀ w ∈ lw_tg, w.before #[Value.ref b] s = true := fun w hw => hts0 w (List.mem_filter.mp hw).1
  have hA : ∀ q : Nat, s.heap.size ≤ q → (fun q : Nat => s.heap.size ≤ q) q := fun _ h => h
  have hbA : ¬ (fun q : Nat => s.heap.size ≤ q) b := Nat.not_le.mpr hbl
  obtain ⟨d0, iS0, hKn0⟩ := u_known (C := RX0) (T := TX0) (N := 6) (n := 6) hts0 inX0 (hts0 (.instantiable RX0 6) ib_X0)
  obtain ⟨d1, iS1, hKn1⟩ := u_known (C := RX1) (T := TX1) (N := 6) (n := 6) hts0 inX1 (hts0 (.instantiable RX1 6) ib_X1)
  obtain ⟨d2, iS2, hKn2⟩ := u_known (C := RX2) (T := TX2) (N := 7) (n := 7) hts0 inX2 (hts0 (.instantiable RX2 7) ib_X2)
  obtain ⟨d3, iS3, hKn3⟩ := u_known (C := RX3) (T := TX3) (N := 7) (n := 7) hts0 inX3 (hts0 (.instantiable RX3 7) ib_X3)
  obtain ⟨d4, iS4, hKn4⟩ := u_known (C := RX4) (T := TX4) (N := 9) (n := 9) hts0 inX4 (hts0 (.instantiable RX4 9) ib_X4)
  obtain ⟨d5, iS5, hKn5⟩ := u_known (C := RX5) (T := TX5) (N := 5) (n := 5) hts0 inX5 (hts0 (.instantiable RX5 5) ib_X5)
  obtain ⟨d6, iS6, hKn6⟩ := u_known (C := RX6) (T := TX6) (N := 4) (n := 4) hts0 inX6 (hts0 (.instantiable RX6 4) ib_X6)
  obtain ⟨d7, iS7, hKn7⟩ := u_known (C := RX7) (T := TX7) (N := 15) (n := 15) hts0 inX7 (hts0 (.instantiable RX7 15) ib_X7)
  obtain ⟨d8, iS8, hKn8⟩ := u_known (C := RX8) (T := TX8) (N := 48) (n := 48) hts0 inX8 (hts0 (.instantiable RX8 48) ib_X8)
  obtain ⟨dC, dI, hKc⟩ : ∃ (dC : Nat → ClassId) (dI : Nat → Nat → Nat), ∀ (k : Nat) (q : vw_C), vwCl[k]? = some q → u_Kn s q.1 q.2.1 q.2.2 (dC k) (dI k) := by
    refine ⟨fun k => ([d0, d1, d2, d3, d4, d5, d6, d7, d8] : List ClassId).getD k 0, fun k => ([iS0, iS1, iS2, iS3, iS4, iS5, iS6, iS7, iS8] : List (Nat → Nat)).getD k id, ?_⟩
    intro k q hq
    match k, hq with
    | 0, hq => cases hq; exact hKn0
    | 1, hq => cases hq; exact hKn1
    | 2, hq => cases hq; exact hKn2
    | 3, hq => cases hq; exact hKn3
    | 4, hq => cases hq; exact hKn4
    | 5, hq => cases hq; exact hKn5
    | 6, hq => cases hq; exact hKn6
    | 7, hq => cases hq; exact hKn7
    | 8, hq => cases hq; exact hKn8
    | k + 9, hq => simp [vwCl] at hq
  have hN : NF s := ⟨hts0 _ ao_x, va_Nw.of rfl (hts0 _ mn_X7_9), va_Nw.of rfl (hts0 _ mn_X7_18), va_Nw.of rfl (hts0 _ mn_X7_25), va_Nw.of rfl (hts0 _ mn_X7_46), va_Nw.of rfl (hts0 _ mn_X7_53), va_Nw.of rfl (hts0 _ mn_X7_60), va_Nw.of rfl (hts0 _ mn_X7_67)⟩
  have hS : va_S (fun q : Nat => s.heap.size ≤ q) s.heap s.heap [] := va_S.rf
  have hK : va_K (dC, dI) vwCl [] s := ⟨hKc, fun k q h => by simp at h⟩
  have hP : va_P (dC, dI) vwCl [] s.heap := fun k q h => by simp at h
  have hD : va_D (fun q : Nat => s.heap.size ≤ q) [] := ⟨fun i j p q h => by simp at h, fun k q h => by simp at h⟩
  have hl := lv_entry ([.ref b]) (n := 4) (Nat.le_of_ble_eq_true rfl)
  rw [lg_entry_eq]
  generalize (lg_sl ([.ref b]) ++ List.replicate (4 - (lg_sl ([.ref b])).length) Slot.unset).toArray = ls at hl ⊢
  have hl : lv_has ls 4 [(0, .ref b)] := hl
  refine va_new (ci := 7) (fs := [.null, .null, .null, .null, .null, .int 0, .int 0, .null, .null, .null, .null, .null, .null, .null, .null]) (C := RX7) (T := TX7) (N := 15) hx hb hts (in_tg inX7) tyX7 tyX7_ok hown (hts _ (tg kl_L_7 rfl)) (hts _ (tg ib_X7 rfl)) (hts _ (tg ini_X7 rfl)) hK hP hD hS hA rfl (fun j hj => by rcases (show j = 0 ∨ j = 1 ∨ j = 2 ∨ j = 3 ∨ j = 4 ∨ j = 5 ∨ j = 6 ∨ j = 7 ∨ j = 8 ∨ j = 9 ∨ j = 10 ∨ j = 11 ∨ j = 12 ∨ j = 13 ∨ j = 14 by omega) with rfl | rfl | rfl | rfl | rfl | rfl | rfl | rfl | rfl | rfl | rfl | rfl | rfl | rfl | rfl <;> rfl) (Nat.le_of_ble_eq_true rfl) (Nat.le_of_ble_eq_true rfl) dL_law_0 (fun x0 H hP hD hS => ?_)
  have hP : va_P (dC, dI) vwCl [(x0, .inr (7, [.null, .null, .null, .null, .null, .int 0, .int 0, .null, .null, .null, .null, .null, .null, .null, .null]))] H := hP
  have hD : va_D (fun q : Nat => s.heap.size ≤ q) [(x0, .inr (7, [.null, .null, .null, .null, .null, .int 0, .int 0, .null, .null, .null, .null, .null, .null, .null, .null]))] := hD
  refine W.widen (k := 1) (n := 15) (by omega) (by omega) ?_
  refine lv_dup hx hb dL_law_3 rfl ?_
  have hPc := hP.sub (ws' := [(x0, .inr (7, [.null, .null, .null, .null, .null, .int 0, .int 0, .null, .null, .null, .null, .null, .null, .null, .null]))]) [0] rfl
  have hDc := hD.sub (ws' := [(x0, .inr (7, [.null, .null, .null, .null, .null, .int 0, .int 0, .null, .null, .null, .null, .null, .null, .null, .null]))]) [0] (by decide) rfl
  have hKc := hK.sub (tys' := []) [] rfl
  have hFc := va_free (wc := [(x0, .inr (7, [.null, .null, .null, .null, .null, .int 0, .int 0, .null, .null, .null, .null, .null, .null, .null, .null]))]) hD hS hA [0] rfl
  refine va_callv (va_runI (As := []) (rest := [.ref x0]) ⟨hx, hb, hml, hown, hts⟩ (ci_X7 l dC dI x0 H.size) (cwI 0 hts (lw_goodL (fun w hw => (List.mem_cons.mp hw).elim (fun e => by rw [e]; exact tg co_X7_init rfl) id)) rfl rfl rfl (hts _ (tg ini_X7 rfl)) (hts _ (tg ml_L_9 rfl)) (hts _ (tg im_X7_init rfl)) rfl (by decide +kernel) ⟨Nat.le_of_ble_eq_true rfl, Nat.le_of_ble_eq_true rfl⟩) ⟨fun a U g mk q => ⟨q.1, q.2.1, q.2.2.1, va_K.moved (u := U) (U := U.calling g mk a) (Vm.Alike.refl U.vm) q.2.2.2.1, q.2.2.2.2.1, NF.same (u := U) (U := U.calling g mk a) rfl q.2.2.2.2.2⟩, fun U hU hW => ⟨rfl, by rw [hU], by rw [hU]; exact hPc, va_K.moved hW.alike hKc, hDc.weaken (fun _ _ _ _ => trivial), NF.warm hW hN⟩⟩ rfl rfl hl.1 rfl (lv_room (Nat.le_of_ble_eq_true rfl)) dL_law_4 ⟨Nat.le_of_ble_eq_true rfl, Nat.le_of_ble_eq_true rfl⟩) hS (fun q _ h => hFc q h) hFc (fun u t H1 locs ht hvm hw hB hz1 hk1 hS => ?_)
  obtain ⟨x1, x2, x3, x4, x5, x6, x12, x13, x14, x15, x16, x17, x23, x24, x25, x26, x30, x31, x32, x33, x37, x38, x39, x40, x44, x45, x46, x47, x48, x53, x54, x55, x56, x57, x58, x59, x60, x61, x62, x63, x69, x70, x71, x74, x75, x76, x77, x78, x83, x85, x87, x89, cx7, cx8, cx9, cx10, cx11, cx18, cx19, cx20, cx21, cx22, cx27, cx28, cx29, cx34, cx35, cx36, cx41, cx42, cx43, cx49, cx50, cx51, cx52, cx64, cx65, cx66, cx67, cx68, cx72, cx73, cx79, cx80, cx81, cx82, cx84, cx86, cx88, cx90, hP1, hK1, hD1⟩ := hB
  rw [ht] at hP1
  have hK1 := va_K.moved hvm.symm hK1
  obtain ⟨hP, hD⟩ := va_join (wr := []) (w1 := [(x0, .inr (7, [.ref x1, .ref x12, .ref x23, .ref x30, .ref x37, .int 0, .int 0, .ref x44, .ref x53, .ref x69, .ref x74, .ref x83, .ref x85, .ref x87, .ref x89])), (x1, .inr (3, [.int 0, .ref x2, .ref x3, .int 0, .ref x4, .ref x5, .ref x6])), (x2, .inl (cx7, 10, .inl (fun _ => 0))), (x3, .inl (cx8, 10, .inl (fun _ => 0))), (x4, .inl (cx9, 12, .inl (fun _ => 0))), (x5, .inl (cx10, 12, .inl (fun _ => 0))), (x6, .inl (cx11, 12, .inl (fun _ => 0))), (x12, .inr (4, [.int 0, .ref x13, .ref x14, .int 0, .ref x15, .int 0, .int 0, .ref x16, .ref x17])), (x13, .inl (cx18, 120, .inl (fun _ => 0))), (x14, .inl (cx19, 121, .inl (fun _ => 0))), (x15, .inl (cx20, 121, .inl (fun _ => 0))), (x16, .inl (cx21, 6, .inl (fun _ => 0))), (x17, .inl (cx22, 121, .inl (fun _ => 0))), (x23, .inr (5, [.ref x24, .ref x25, .ref x26, .int 0, .int 0])), (x24, .inl (cx27, 12, .inl (fun _ => 0))), (x25, .inl (cx28, 12, .inl (fun _ => 0))), (x26, .inl (cx29, 6, .inl (fun _ => 0))), (x30, .inr (5, [.ref x31, .ref x32, .ref x33, .int 0, .int 0])), (x31, .inl (cx34, 12, .inl (fun _ => 0))), (x32, .inl (cx35, 12, .inl (fun _ => 0))), (x33, .inl (cx36, 6, .inl (fun _ => 0))), (x37, .inr (5, [.ref x38, .ref x39, .ref x40, .int 0, .int 0])), (x38, .inl (cx41, 12, .inl (fun _ => 0))), (x39, .inl (cx42, 12, .inl (fun _ => 0))), (x40, .inl (cx43, 6, .inl (fun _ => 0))), (x44, .inr (0, [.ref x45, .ref x46, .ref x47, .ref x48, .int 0, .int 0])), (x45, .inl (cx49, 40, .inl (fun _ => 0))), (x46, .inl (cx50, 40, .inl (fun _ => 0))), (x47, .inl (cx51, 40, .inl (fun _ => 0))), (x48, .inl (cx52, 40, .inl (fun _ => 0))), (x53, .inr (6, [.ref x54, .ref x61, .ref x62, .ref x63])), (x54, .inl (cx65, 6, .inr (.inr (.inr (.inr (fun i => if i < 6 then some (([x55, x56, x57, x58, x59, x60] : List Nat).getD i 0) else none)))))), (x55, .inl (cx64, 60, .inr (.inl (fun _ => 0)))), (x56, .inl (cx64, 60, .inr (.inl (fun _ => 0)))), (x57, .inl (cx64, 60, .inr (.inl (fun _ => 0)))), (x58, .inl (cx64, 60, .inr (.inl (fun _ => 0)))), (x59, .inl (cx64, 60, .inr (.inl (fun _ => 0)))), (x60, .inl (cx64, 60, .inr (.inl (fun _ => 0)))), (x61, .inl (cx66, 6, .inl (fun _ => 0))), (x62, .inl (cx67, 6, .inl (upd (upd (upd (upd (upd (upd (fun _ => 0) 0 (-1)) 1 (-1)) 2 (-1)) 3 (-1)) 4 (-1)) 5 (-1)))), (x63, .inl (cx68, 6, .inl (fun _ => 0))), (x69, .inr (1, [.int 0, .ref x70, .ref x71, .int 0, .int 0, .int 0])), (x70, .inl (cx72, 50, .inl (fun _ => 0))), (x71, .inl (cx73, 24, .inl (fun _ => 0))), (x74, .inr (2, [.ref x75, .ref x76, .ref x77, .ref x78, .int 0, .int 0, .int 0])), (x75, .inl (cx79, 12, .inl (fun _ => 0))), (x76, .inl (cx80, 12, .inl (fun _ => 0))), (x77, .inl (cx81, 12, .inl (fun _ => 0))), (x78, .inl (cx82, 12, .inl (fun _ => 0))), (x83, .inl (cx84, 2, .inl (fun _ => 0))), (x85, .inl (cx86, 12, .inl (fun _ => 0))), (x87, .inl (cx88, 12, .inl (fun _ => 0))), (x89, .inl (cx90, 10, .inl (fun _ => 0)))]) hP hD [0] [] rfl rfl (by decide) (by decide) hk1 hFc hP1 hD1
  have hK := (hK.sub (tys' := []) [] rfl).app hK1
  generalize H1 = H at hP hS ⊢
  have hP : va_P (dC, dI) vwCl [(x0, .inr (7, [.ref x1, .ref x12, .ref x23, .ref x30, .ref x37, .int 0, .int 0, .ref x44, .ref x53, .ref x69, .ref x74, .ref x83, .ref x85, .ref x87, .ref x89])), (x1, .inr (3, [.int 0, .ref x2, .ref x3, .int 0, .ref x4, .ref x5, .ref x6])), (x2, .inl (cx7, 10, .inl (fun _ => 0))), (x3, .inl (cx8, 10, .inl (fun _ => 0))), (x4, .inl (cx9, 12, .inl (fun _ => 0))), (x5, .inl (cx10, 12, .inl (fun _ => 0))), (x6, .inl (cx11, 12, .inl (fun _ => 0))), (x12, .inr (4, [.int 0, .ref x13, .ref x14, .int 0, .ref x15, .int 0, .int 0, .ref x16, .ref x17])), (x13, .inl (cx18, 120, .inl (fun _ => 0))), (x14, .inl (cx19, 121, .inl (fun _ => 0))), (x15, .inl (cx20, 121, .inl (fun _ => 0))), (x16, .inl (cx21, 6, .inl (fun _ => 0))), (x17, .inl (cx22, 121, .inl (fun _ => 0))), (x23, .inr (5, [.ref x24, .ref x25, .ref x26, .int 0, .int 0])), (x24, .inl (cx27, 12, .inl (fun _ => 0))), (x25, .inl (cx28, 12, .inl (fun _ => 0))), (x26, .inl (cx29, 6, .inl (fun _ => 0))), (x30, .inr (5, [.ref x31, .ref x32, .ref x33, .int 0, .int 0])), (x31, .inl (cx34, 12, .inl (fun _ => 0))), (x32, .inl (cx35, 12, .inl (fun _ => 0))), (x33, .inl (cx36, 6, .inl (fun _ => 0))), (x37, .inr (5, [.ref x38, .ref x39, .ref x40, .int 0, .int 0])), (x38, .inl (cx41, 12, .inl (fun _ => 0))), (x39, .inl (cx42, 12, .inl (fun _ => 0))), (x40, .inl (cx43, 6, .inl (fun _ => 0))), (x44, .inr (0, [.ref x45, .ref x46, .ref x47, .ref x48, .int 0, .int 0])), (x45, .inl (cx49, 40, .inl (fun _ => 0))), (x46, .inl (cx50, 40, .inl (fun _ => 0))), (x47, .inl (cx51, 40, .inl (fun _ => 0))), (x48, .inl (cx52, 40, .inl (fun _ => 0))), (x53, .inr (6, [.ref x54, .ref x61, .ref x62, .ref x63])), (x54, .inl (cx65, 6, .inr (.inr (.inr (.inr (fun i => if i < 6 then some (([x55, x56, x57, x58, x59, x60] : List Nat).getD i 0) else none)))))), (x55, .inl (cx64, 60, .inr (.inl (fun _ => 0)))), (x56, .inl (cx64, 60, .inr (.inl (fun _ => 0)))), (x57, .inl (cx64, 60, .inr (.inl (fun _ => 0)))), (x58, .inl (cx64, 60, .inr (.inl (fun _ => 0)))), (x59, .inl (cx64, 60, .inr (.inl (fun _ => 0)))), (x60, .inl (cx64, 60, .inr (.inl (fun _ => 0)))), (x61, .inl (cx66, 6, .inl (fun _ => 0))), (x62, .inl (cx67, 6, .inl (upd (upd (upd (upd (upd (upd (fun _ => 0) 0 (-1)) 1 (-1)) 2 (-1)) 3 (-1)) 4 (-1)) 5 (-1)))), (x63, .inl (cx68, 6, .inl (fun _ => 0))), (x69, .inr (1, [.int 0, .ref x70, .ref x71, .int 0, .int 0, .int 0])), (x70, .inl (cx72, 50, .inl (fun _ => 0))), (x71, .inl (cx73, 24, .inl (fun _ => 0))), (x74, .inr (2, [.ref x75, .ref x76, .ref x77, .ref x78, .int 0, .int 0, .int 0])), (x75, .inl (cx79, 12, .inl (fun _ => 0))), (x76, .inl (cx80, 12, .inl (fun _ => 0))), (x77, .inl (cx81, 12, .inl (fun _ => 0))), (x78, .inl (cx82, 12, .inl (fun _ => 0))), (x83, .inl (cx84, 2, .inl (fun _ => 0))), (x85, .inl (cx86, 12, .inl (fun _ => 0))), (x87, .inl (cx88, 12, .inl (fun _ => 0))), (x89, .inl (cx90, 10, .inl (fun _ => 0)))] H := hP
  have hD : va_D (fun q : Nat => s.heap.size ≤ q) [(x0, .inr (7, [.ref x1, .ref x12, .ref x23, .ref x30, .ref x37, .int 0, .int 0, .ref x44, .ref x53, .ref x69, .ref x74, .ref x83, .ref x85, .ref x87, .ref x89])), (x1, .inr (3, [.int 0, .ref x2, .ref x3, .int 0, .ref x4, .ref x5, .ref x6])), (x2, .inl (cx7, 10, .inl (fun _ => 0))), (x3, .inl (cx8, 10, .inl (fun _ => 0))), (x4, .inl (cx9, 12, .inl (fun _ => 0))), (x5, .inl (cx10, 12, .inl (fun _ => 0))), (x6, .inl (cx11, 12, .inl (fun _ => 0))), (x12, .inr (4, [.int 0, .ref x13, .ref x14, .int 0, .ref x15, .int 0, .int 0, .ref x16, .ref x17])), (x13, .inl (cx18, 120, .inl (fun _ => 0))), (x14, .inl (cx19, 121, .inl (fun _ => 0))), (x15, .inl (cx20, 121, .inl (fun _ => 0))), (x16, .inl (cx21, 6, .inl (fun _ => 0))), (x17, .inl (cx22, 121, .inl (fun _ => 0))), (x23, .inr (5, [.ref x24, .ref x25, .ref x26, .int 0, .int 0])), (x24, .inl (cx27, 12, .inl (fun _ => 0))), (x25, .inl (cx28, 12, .inl (fun _ => 0))), (x26, .inl (cx29, 6, .inl (fun _ => 0))), (x30, .inr (5, [.ref x31, .ref x32, .ref x33, .int 0, .int 0])), (x31, .inl (cx34, 12, .inl (fun _ => 0))), (x32, .inl (cx35, 12, .inl (fun _ => 0))), (x33, .inl (cx36, 6, .inl (fun _ => 0))), (x37, .inr (5, [.ref x38, .ref x39, .ref x40, .int 0, .int 0])), (x38, .inl (cx41, 12, .inl (fun _ => 0))), (x39, .inl (cx42, 12, .inl (fun _ => 0))), (x40, .inl (cx43, 6, .inl (fun _ => 0))), (x44, .inr (0, [.ref x45, .ref x46, .ref x47, .ref x48, .int 0, .int 0])), (x45, .inl (cx49, 40, .inl (fun _ => 0))), (x46, .inl (cx50, 40, .inl (fun _ => 0))), (x47, .inl (cx51, 40, .inl (fun _ => 0))), (x48, .inl (cx52, 40, .inl (fun _ => 0))), (x53, .inr (6, [.ref x54, .ref x61, .ref x62, .ref x63])), (x54, .inl (cx65, 6, .inr (.inr (.inr (.inr (fun i => if i < 6 then some (([x55, x56, x57, x58, x59, x60] : List Nat).getD i 0) else none)))))), (x55, .inl (cx64, 60, .inr (.inl (fun _ => 0)))), (x56, .inl (cx64, 60, .inr (.inl (fun _ => 0)))), (x57, .inl (cx64, 60, .inr (.inl (fun _ => 0)))), (x58, .inl (cx64, 60, .inr (.inl (fun _ => 0)))), (x59, .inl (cx64, 60, .inr (.inl (fun _ => 0)))), (x60, .inl (cx64, 60, .inr (.inl (fun _ => 0)))), (x61, .inl (cx66, 6, .inl (fun _ => 0))), (x62, .inl (cx67, 6, .inl (upd (upd (upd (upd (upd (upd (fun _ => 0) 0 (-1)) 1 (-1)) 2 (-1)) 3 (-1)) 4 (-1)) 5 (-1)))), (x63, .inl (cx68, 6, .inl (fun _ => 0))), (x69, .inr (1, [.int 0, .ref x70, .ref x71, .int 0, .int 0, .int 0])), (x70, .inl (cx72, 50, .inl (fun _ => 0))), (x71, .inl (cx73, 24, .inl (fun _ => 0))), (x74, .inr (2, [.ref x75, .ref x76, .ref x77, .ref x78, .int 0, .int 0, .int 0])), (x75, .inl (cx79, 12, .inl (fun _ => 0))), (x76, .inl (cx80, 12, .inl (fun _ => 0))), (x77, .inl (cx81, 12, .inl (fun _ => 0))), (x78, .inl (cx82, 12, .inl (fun _ => 0))), (x83, .inl (cx84, 2, .inl (fun _ => 0))), (x85, .inl (cx86, 12, .inl (fun _ => 0))), (x87, .inl (cx88, 12, .inl (fun _ => 0))), (x89, .inl (cx90, 10, .inl (fun _ => 0)))] := hD
  have hK : va_K (dC, dI) vwCl [(cx7, .int), (cx8, .int), (cx9, .int), (cx10, .int), (cx11, .int), (cx18, .int), (cx19, .int), (cx20, .int), (cx21, .int), (cx22, .int), (cx27, .int), (cx28, .int), (cx29, .int), (cx34, .int), (cx35, .int), (cx36, .int), (cx41, .int), (cx42, .int), (cx43, .int), (cx49, .int), (cx50, .int), (cx51, .int), (cx52, .int), (cx64, .long), (cx65, .array .long), (cx66, .int), (cx67, .int), (cx68, .int), (cx72, .int), (cx73, .int), (cx79, .int), (cx80, .int), (cx81, .int), (cx82, .int), (cx84, .int), (cx86, .int), (cx88, .int), (cx90, .int)] s := hK
  refine W.widen (k := 53) (n := 1406) (by omega) (by omega) ?_
  refine lv_astore_n (lv' := [(1, .ref x0), (0, .ref b)]) hx hb dL_law_7 rfl hl (by decide) rfl (fun ls hl => ?_)
  refine va_new (ci := 8) (fs := [.null, .int 0, .null, .null, .int 0, .null, .null, .null, .null, .null, .int 0, .int 0, .null, .int 0, .int 0, .null, .null, .null, .null, .int 0, .int 0, .int 0, .int 0, .null, .null, .null, .null, .null, .null, .null, .int 0, .int 0, .null, .null, .int 0, .int 0, .null, .int 0, .null, .int 0, .null, .null, .null, .null, .null, .null, .null, .null]) (C := RX8) (T := TX8) (N := 48) hx hb hts (in_tg inX8) tyX8 tyX8_ok hown (hts _ (tg kl_L_10 rfl)) (hts _ (tg ib_X8 rfl)) (hts _ (tg ini_X8 rfl)) hK hP hD hS hA rfl (fun j hj => by rcases (show j = 0 ∨ j = 1 ∨ j = 2 ∨ j = 3 ∨ j = 4 ∨ j = 5 ∨ j = 6 ∨ j = 7 ∨ j = 8 ∨ j = 9 ∨ j = 10 ∨ j = 11 ∨ j = 12 ∨ j = 13 ∨ j = 14 ∨ j = 15 ∨ j = 16 ∨ j = 17 ∨ j = 18 ∨ j = 19 ∨ j = 20 ∨ j = 21 ∨ j = 22 ∨ j = 23 ∨ j = 24 ∨ j = 25 ∨ j = 26 ∨ j = 27 ∨ j = 28 ∨ j = 29 ∨ j = 30 ∨ j = 31 ∨ j = 32 ∨ j = 33 ∨ j = 34 ∨ j = 35 ∨ j = 36 ∨ j = 37 ∨ j = 38 ∨ j = 39 ∨ j = 40 ∨ j = 41 ∨ j = 42 ∨ j = 43 ∨ j = 44 ∨ j = 45 ∨ j = 46 ∨ j = 47 by omega) with rfl | rfl | rfl | rfl | rfl | rfl | rfl | rfl | rfl | rfl | rfl | rfl | rfl | rfl | rfl | rfl | rfl | rfl | rfl | rfl | rfl | rfl | rfl | rfl | rfl | rfl | rfl | rfl | rfl | rfl | rfl | rfl | rfl | rfl | rfl | rfl | rfl | rfl | rfl | rfl | rfl | rfl | rfl | rfl | rfl | rfl | rfl | rfl <;> rfl) (Nat.le_of_ble_eq_true rfl) (Nat.le_of_ble_eq_true rfl) dL_law_8 (fun m0 H hP hD hS => ?_)
  have hP : va_P (dC, dI) vwCl [(x0, .inr (7, [.ref x1, .ref x12, .ref x23, .ref x30, .ref x37, .int 0, .int 0, .ref x44, .ref x53, .ref x69, .ref x74, .ref x83, .ref x85, .ref x87, .ref x89])), (x1, .inr (3, [.int 0, .ref x2, .ref x3, .int 0, .ref x4, .ref x5, .ref x6])), (x2, .inl (cx7, 10, .inl (fun _ => 0))), (x3, .inl (cx8, 10, .inl (fun _ => 0))), (x4, .inl (cx9, 12, .inl (fun _ => 0))), (x5, .inl (cx10, 12, .inl (fun _ => 0))), (x6, .inl (cx11, 12, .inl (fun _ => 0))), (x12, .inr (4, [.int 0, .ref x13, .ref x14, .int 0, .ref x15, .int 0, .int 0, .ref x16, .ref x17])), (x13, .inl (cx18, 120, .inl (fun _ => 0))), (x14, .inl (cx19, 121, .inl (fun _ => 0))), (x15, .inl (cx20, 121, .inl (fun _ => 0))), (x16, .inl (cx21, 6, .inl (fun _ => 0))), (x17, .inl (cx22, 121, .inl (fun _ => 0))), (x23, .inr (5, [.ref x24, .ref x25, .ref x26, .int 0, .int 0])), (x24, .inl (cx27, 12, .inl (fun _ => 0))), (x25, .inl (cx28, 12, .inl (fun _ => 0))), (x26, .inl (cx29, 6, .inl (fun _ => 0))), (x30, .inr (5, [.ref x31, .ref x32, .ref x33, .int 0, .int 0])), (x31, .inl (cx34, 12, .inl (fun _ => 0))), (x32, .inl (cx35, 12, .inl (fun _ => 0))), (x33, .inl (cx36, 6, .inl (fun _ => 0))), (x37, .inr (5, [.ref x38, .ref x39, .ref x40, .int 0, .int 0])), (x38, .inl (cx41, 12, .inl (fun _ => 0))), (x39, .inl (cx42, 12, .inl (fun _ => 0))), (x40, .inl (cx43, 6, .inl (fun _ => 0))), (x44, .inr (0, [.ref x45, .ref x46, .ref x47, .ref x48, .int 0, .int 0])), (x45, .inl (cx49, 40, .inl (fun _ => 0))), (x46, .inl (cx50, 40, .inl (fun _ => 0))), (x47, .inl (cx51, 40, .inl (fun _ => 0))), (x48, .inl (cx52, 40, .inl (fun _ => 0))), (x53, .inr (6, [.ref x54, .ref x61, .ref x62, .ref x63])), (x54, .inl (cx65, 6, .inr (.inr (.inr (.inr (fun i => if i < 6 then some (([x55, x56, x57, x58, x59, x60] : List Nat).getD i 0) else none)))))), (x55, .inl (cx64, 60, .inr (.inl (fun _ => 0)))), (x56, .inl (cx64, 60, .inr (.inl (fun _ => 0)))), (x57, .inl (cx64, 60, .inr (.inl (fun _ => 0)))), (x58, .inl (cx64, 60, .inr (.inl (fun _ => 0)))), (x59, .inl (cx64, 60, .inr (.inl (fun _ => 0)))), (x60, .inl (cx64, 60, .inr (.inl (fun _ => 0)))), (x61, .inl (cx66, 6, .inl (fun _ => 0))), (x62, .inl (cx67, 6, .inl (upd (upd (upd (upd (upd (upd (fun _ => 0) 0 (-1)) 1 (-1)) 2 (-1)) 3 (-1)) 4 (-1)) 5 (-1)))), (x63, .inl (cx68, 6, .inl (fun _ => 0))), (x69, .inr (1, [.int 0, .ref x70, .ref x71, .int 0, .int 0, .int 0])), (x70, .inl (cx72, 50, .inl (fun _ => 0))), (x71, .inl (cx73, 24, .inl (fun _ => 0))), (x74, .inr (2, [.ref x75, .ref x76, .ref x77, .ref x78, .int 0, .int 0, .int 0])), (x75, .inl (cx79, 12, .inl (fun _ => 0))), (x76, .inl (cx80, 12, .inl (fun _ => 0))), (x77, .inl (cx81, 12, .inl (fun _ => 0))), (x78, .inl (cx82, 12, .inl (fun _ => 0))), (x83, .inl (cx84, 2, .inl (fun _ => 0))), (x85, .inl (cx86, 12, .inl (fun _ => 0))), (x87, .inl (cx88, 12, .inl (fun _ => 0))), (x89, .inl (cx90, 10, .inl (fun _ => 0))), (m0, .inr (8, [.null, .int 0, .null, .null, .int 0, .null, .null, .null, .null, .null, .int 0, .int 0, .null, .int 0, .int 0, .null, .null, .null, .null, .int 0, .int 0, .int 0, .int 0, .null, .null, .null, .null, .null, .null, .null, .int 0, .int 0, .null, .null, .int 0, .int 0, .null, .int 0, .null, .int 0, .null, .null, .null, .null, .null, .null, .null, .null]))] H := hP
  have hD : va_D (fun q : Nat => s.heap.size ≤ q) [(x0, .inr (7, [.ref x1, .ref x12, .ref x23, .ref x30, .ref x37, .int 0, .int 0, .ref x44, .ref x53, .ref x69, .ref x74, .ref x83, .ref x85, .ref x87, .ref x89])), (x1, .inr (3, [.int 0, .ref x2, .ref x3, .int 0, .ref x4, .ref x5, .ref x6])), (x2, .inl (cx7, 10, .inl (fun _ => 0))), (x3, .inl (cx8, 10, .inl (fun _ => 0))), (x4, .inl (cx9, 12, .inl (fun _ => 0))), (x5, .inl (cx10, 12, .inl (fun _ => 0))), (x6, .inl (cx11, 12, .inl (fun _ => 0))), (x12, .inr (4, [.int 0, .ref x13, .ref x14, .int 0, .ref x15, .int 0, .int 0, .ref x16, .ref x17])), (x13, .inl (cx18, 120, .inl (fun _ => 0))), (x14, .inl (cx19, 121, .inl (fun _ => 0))), (x15, .inl (cx20, 121, .inl (fun _ => 0))), (x16, .inl (cx21, 6, .inl (fun _ => 0))), (x17, .inl (cx22, 121, .inl (fun _ => 0))), (x23, .inr (5, [.ref x24, .ref x25, .ref x26, .int 0, .int 0])), (x24, .inl (cx27, 12, .inl (fun _ => 0))), (x25, .inl (cx28, 12, .inl (fun _ => 0))), (x26, .inl (cx29, 6, .inl (fun _ => 0))), (x30, .inr (5, [.ref x31, .ref x32, .ref x33, .int 0, .int 0])), (x31, .inl (cx34, 12, .inl (fun _ => 0))), (x32, .inl (cx35, 12, .inl (fun _ => 0))), (x33, .inl (cx36, 6, .inl (fun _ => 0))), (x37, .inr (5, [.ref x38, .ref x39, .ref x40, .int 0, .int 0])), (x38, .inl (cx41, 12, .inl (fun _ => 0))), (x39, .inl (cx42, 12, .inl (fun _ => 0))), (x40, .inl (cx43, 6, .inl (fun _ => 0))), (x44, .inr (0, [.ref x45, .ref x46, .ref x47, .ref x48, .int 0, .int 0])), (x45, .inl (cx49, 40, .inl (fun _ => 0))), (x46, .inl (cx50, 40, .inl (fun _ => 0))), (x47, .inl (cx51, 40, .inl (fun _ => 0))), (x48, .inl (cx52, 40, .inl (fun _ => 0))), (x53, .inr (6, [.ref x54, .ref x61, .ref x62, .ref x63])), (x54, .inl (cx65, 6, .inr (.inr (.inr (.inr (fun i => if i < 6 then some (([x55, x56, x57, x58, x59, x60] : List Nat).getD i 0) else none)))))), (x55, .inl (cx64, 60, .inr (.inl (fun _ => 0)))), (x56, .inl (cx64, 60, .inr (.inl (fun _ => 0)))), (x57, .inl (cx64, 60, .inr (.inl (fun _ => 0)))), (x58, .inl (cx64, 60, .inr (.inl (fun _ => 0)))), (x59, .inl (cx64, 60, .inr (.inl (fun _ => 0)))), (x60, .inl (cx64, 60, .inr (.inl (fun _ => 0)))), (x61, .inl (cx66, 6, .inl (fun _ => 0))), (x62, .inl (cx67, 6, .inl (upd (upd (upd (upd (upd (upd (fun _ => 0) 0 (-1)) 1 (-1)) 2 (-1)) 3 (-1)) 4 (-1)) 5 (-1)))), (x63, .inl (cx68, 6, .inl (fun _ => 0))), (x69, .inr (1, [.int 0, .ref x70, .ref x71, .int 0, .int 0, .int 0])), (x70, .inl (cx72, 50, .inl (fun _ => 0))), (x71, .inl (cx73, 24, .inl (fun _ => 0))), (x74, .inr (2, [.ref x75, .ref x76, .ref x77, .ref x78, .int 0, .int 0, .int 0])), (x75, .inl (cx79, 12, .inl (fun _ => 0))), (x76, .inl (cx80, 12, .inl (fun _ => 0))), (x77, .inl (cx81, 12, .inl (fun _ => 0))), (x78, .inl (cx82, 12, .inl (fun _ => 0))), (x83, .inl (cx84, 2, .inl (fun _ => 0))), (x85, .inl (cx86, 12, .inl (fun _ => 0))), (x87, .inl (cx88, 12, .inl (fun _ => 0))), (x89, .inl (cx90, 10, .inl (fun _ => 0))), (m0, .inr (8, [.null, .int 0, .null, .null, .int 0, .null, .null, .null, .null, .null, .int 0, .int 0, .null, .int 0, .int 0, .null, .null, .null, .null, .int 0, .int 0, .int 0, .int 0, .null, .null, .null, .null, .null, .null, .null, .int 0, .int 0, .null, .null, .int 0, .int 0, .null, .int 0, .null, .int 0, .null, .null, .null, .null, .null, .null, .null, .null]))] := hD
  refine W.widen (k := 54) (n := 1454) (by omega) (by omega) ?_
  refine lv_dup hx hb dL_law_11 rfl ?_
  have hPc := hP.sub (ws' := [(m0, .inr (8, [.null, .int 0, .null, .null, .int 0, .null, .null, .null, .null, .null, .int 0, .int 0, .null, .int 0, .int 0, .null, .null, .null, .null, .int 0, .int 0, .int 0, .int 0, .null, .null, .null, .null, .null, .null, .null, .int 0, .int 0, .null, .null, .int 0, .int 0, .null, .int 0, .null, .int 0, .null, .null, .null, .null, .null, .null, .null, .null]))]) [53] rfl
  have hDc := hD.sub (ws' := [(m0, .inr (8, [.null, .int 0, .null, .null, .int 0, .null, .null, .null, .null, .null, .int 0, .int 0, .null, .int 0, .int 0, .null, .null, .null, .null, .int 0, .int 0, .int 0, .int 0, .null, .null, .null, .null, .null, .null, .null, .int 0, .int 0, .null, .null, .int 0, .int 0, .null, .int 0, .null, .int 0, .null, .null, .null, .null, .null, .null, .null, .null]))]) [53] (by decide) rfl
  have hKc := hK.sub (tys' := []) [] rfl
  have hFc := va_free (wc := [(m0, .inr (8, [.null, .int 0, .null, .null, .int 0, .null, .null, .null, .null, .null, .int 0, .int 0, .null, .int 0, .int 0, .null, .null, .null, .null, .int 0, .int 0, .int 0, .int 0, .null, .null, .null, .null, .null, .null, .null, .int 0, .int 0, .null, .null, .int 0, .int 0, .null, .int 0, .null, .int 0, .null, .null, .null, .null, .null, .null, .null, .null]))]) hD hS hA [53] rfl
  refine va_callv (va_runI (As := []) (rest := [.ref m0]) ⟨hx, hb, hml, hown, hts⟩ (ci_X8 l dC dI m0 H.size) (cwI 0 hts (lw_goodL (fun w hw => (List.mem_cons.mp hw).elim (fun e => by rw [e]; exact tg co_X8_init rfl) id)) rfl rfl rfl (hts _ (tg ini_X8 rfl)) (hts _ (tg ml_L_12 rfl)) (hts _ (tg im_X8_init rfl)) rfl (by decide +kernel) ⟨Nat.le_of_ble_eq_true rfl, Nat.le_of_ble_eq_true rfl⟩) ⟨fun a U g mk q => ⟨q.1, q.2.1, q.2.2.1, va_K.moved (u := U) (U := U.calling g mk a) (Vm.Alike.refl U.vm) q.2.2.2.1, q.2.2.2.2.1, NF.same (u := U) (U := U.calling g mk a) rfl q.2.2.2.2.2⟩, fun U hU hW => ⟨rfl, by rw [hU], by rw [hU]; exact hPc, va_K.moved hW.alike hKc, hDc.weaken (fun _ _ _ _ => trivial), NF.warm hW hN⟩⟩ rfl rfl hl.1 rfl (lv_room (Nat.le_of_ble_eq_true rfl)) dL_law_12 ⟨Nat.le_of_ble_eq_true rfl, Nat.le_of_ble_eq_true rfl⟩) hS (fun q _ h => hFc q h) hFc (fun u t H1 locs ht hvm hw hB hz1 hk1 hS => ?_)
  obtain ⟨m1, m3, m5, m7, m9, m11, m13, m15, m17, m19, m21, m23, m25, m27, m29, m31, m33, m35, m37, m39, m41, m43, m45, m47, m49, m51, m53, m55, m57, m59, m61, m63, cm2, cm4, cm6, cm8, cm10, cm12, cm14, cm16, cm18, cm20, cm22, cm24, cm26, cm28, cm30, cm32, cm34, cm36, cm38, cm40, cm42, cm44, cm46, cm48, cm50, cm52, cm54, cm56, cm58, cm60, cm62, cm64, hP1, hK1, hD1⟩ := hB
  rw [ht] at hP1
  have hK1 := va_K.moved hvm.symm hK1
  obtain ⟨hP, hD⟩ := va_join (wr := [(x0, .inr (7, [.ref x1, .ref x12, .ref x23, .ref x30, .ref x37, .int 0, .int 0, .ref x44, .ref x53, .ref x69, .ref x74, .ref x83, .ref x85, .ref x87, .ref x89])), (x1, .inr (3, [.int 0, .ref x2, .ref x3, .int 0, .ref x4, .ref x5, .ref x6])), (x2, .inl (cx7, 10, .inl (fun _ => 0))), (x3, .inl (cx8, 10, .inl (fun _ => 0))), (x4, .inl (cx9, 12, .inl (fun _ => 0))), (x5, .inl (cx10, 12, .inl (fun _ => 0))), (x6, .inl (cx11, 12, .inl (fun _ => 0))), (x12, .inr (4, [.int 0, .ref x13, .ref x14, .int 0, .ref x15, .int 0, .int 0, .ref x16, .ref x17])), (x13, .inl (cx18, 120, .inl (fun _ => 0))), (x14, .inl (cx19, 121, .inl (fun _ => 0))), (x15, .inl (cx20, 121, .inl (fun _ => 0))), (x16, .inl (cx21, 6, .inl (fun _ => 0))), (x17, .inl (cx22, 121, .inl (fun _ => 0))), (x23, .inr (5, [.ref x24, .ref x25, .ref x26, .int 0, .int 0])), (x24, .inl (cx27, 12, .inl (fun _ => 0))), (x25, .inl (cx28, 12, .inl (fun _ => 0))), (x26, .inl (cx29, 6, .inl (fun _ => 0))), (x30, .inr (5, [.ref x31, .ref x32, .ref x33, .int 0, .int 0])), (x31, .inl (cx34, 12, .inl (fun _ => 0))), (x32, .inl (cx35, 12, .inl (fun _ => 0))), (x33, .inl (cx36, 6, .inl (fun _ => 0))), (x37, .inr (5, [.ref x38, .ref x39, .ref x40, .int 0, .int 0])), (x38, .inl (cx41, 12, .inl (fun _ => 0))), (x39, .inl (cx42, 12, .inl (fun _ => 0))), (x40, .inl (cx43, 6, .inl (fun _ => 0))), (x44, .inr (0, [.ref x45, .ref x46, .ref x47, .ref x48, .int 0, .int 0])), (x45, .inl (cx49, 40, .inl (fun _ => 0))), (x46, .inl (cx50, 40, .inl (fun _ => 0))), (x47, .inl (cx51, 40, .inl (fun _ => 0))), (x48, .inl (cx52, 40, .inl (fun _ => 0))), (x53, .inr (6, [.ref x54, .ref x61, .ref x62, .ref x63])), (x54, .inl (cx65, 6, .inr (.inr (.inr (.inr (fun i => if i < 6 then some (([x55, x56, x57, x58, x59, x60] : List Nat).getD i 0) else none)))))), (x55, .inl (cx64, 60, .inr (.inl (fun _ => 0)))), (x56, .inl (cx64, 60, .inr (.inl (fun _ => 0)))), (x57, .inl (cx64, 60, .inr (.inl (fun _ => 0)))), (x58, .inl (cx64, 60, .inr (.inl (fun _ => 0)))), (x59, .inl (cx64, 60, .inr (.inl (fun _ => 0)))), (x60, .inl (cx64, 60, .inr (.inl (fun _ => 0)))), (x61, .inl (cx66, 6, .inl (fun _ => 0))), (x62, .inl (cx67, 6, .inl (upd (upd (upd (upd (upd (upd (fun _ => 0) 0 (-1)) 1 (-1)) 2 (-1)) 3 (-1)) 4 (-1)) 5 (-1)))), (x63, .inl (cx68, 6, .inl (fun _ => 0))), (x69, .inr (1, [.int 0, .ref x70, .ref x71, .int 0, .int 0, .int 0])), (x70, .inl (cx72, 50, .inl (fun _ => 0))), (x71, .inl (cx73, 24, .inl (fun _ => 0))), (x74, .inr (2, [.ref x75, .ref x76, .ref x77, .ref x78, .int 0, .int 0, .int 0])), (x75, .inl (cx79, 12, .inl (fun _ => 0))), (x76, .inl (cx80, 12, .inl (fun _ => 0))), (x77, .inl (cx81, 12, .inl (fun _ => 0))), (x78, .inl (cx82, 12, .inl (fun _ => 0))), (x83, .inl (cx84, 2, .inl (fun _ => 0))), (x85, .inl (cx86, 12, .inl (fun _ => 0))), (x87, .inl (cx88, 12, .inl (fun _ => 0))), (x89, .inl (cx90, 10, .inl (fun _ => 0)))]) (w1 := [(m0, .inr (8, [.ref m1, .int 0, .ref m3, .ref m5, .int 0, .ref m7, .ref m9, .ref m11, .ref m13, .ref m15, .int 0, .int 0, .ref m17, .int 0, .int 0, .ref m19, .ref m21, .ref m23, .ref m25, .int 0, .int 0, .int 0, .int 0, .ref m27, .ref m29, .ref m31, .ref m33, .ref m35, .ref m37, .ref m39, .int 0, .int 0, .ref m41, .ref m43, .int 0, .int 0, .ref m45, .int 0, .ref m47, .int 0, .ref m49, .ref m51, .ref m53, .ref m55, .ref m57, .ref m59, .ref m61, .ref m63])), (m1, .inl (cm2, 12, .inl (fun _ => 0))), (m3, .inl (cm4, 10, .inl (fun _ => 0))), (m5, .inl (cm6, 10, .inl (fun _ => 0))), (m7, .inl (cm8, 12, .inl (fun _ => 0))), (m9, .inl (cm10, 12, .inl (fun _ => 0))), (m11, .inl (cm12, 12, .inl (fun _ => 0))), (m13, .inl (cm14, 12, .inl (fun _ => 0))), (m15, .inl (cm16, 12, .inl (fun _ => 0))), (m17, .inl (cm18, 120, .inl (fun _ => 0))), (m19, .inl (cm20, 60, .inl (fun _ => 0))), (m21, .inl (cm22, 60, .inl (fun _ => 0))), (m23, .inl (cm24, 60, .inl (fun _ => 0))), (m25, .inl (cm26, 200, .inl (fun _ => 0))), (m27, .inl (cm28, 61, .inl (fun _ => 0))), (m29, .inl (cm30, 61, .inl (fun _ => 0))), (m31, .inl (cm32, 61, .inl (fun _ => 0))), (m33, .inl (cm34, 200, .inl (fun _ => 0))), (m35, .inl (cm36, 200, .inl (fun _ => 0))), (m37, .inl (cm38, 6, .inl (fun _ => 0))), (m39, .inl (cm40, 6, .inl (fun _ => 0))), (m41, .inl (cm42, 37, .inl (fun _ => 0))), (m43, .inl (cm44, 6, .inl (fun _ => 0))), (m45, .inl (cm46, 160, .inl (fun _ => 0))), (m47, .inl (cm48, 50, .inl (fun _ => 0))), (m49, .inl (cm50, 24, .inl (fun _ => 0))), (m51, .inl (cm52, 6, .inl (upd (upd (upd (upd (upd (upd (fun _ => 0) 0 (-1)) 1 (-1)) 2 (-1)) 3 (-1)) 4 (-1)) 5 (-1)))), (m53, .inl (cm54, 6, .inl (fun _ => 0))), (m55, .inl (cm56, 360, .inr (.inl (fun _ => 0)))), (m57, .inl (cm58, 37, .inl (fun _ => 0))), (m59, .inl (cm60, 37, .inl (fun _ => 0))), (m61, .inl (cm62, 2, .inl (fun _ => 0))), (m63, .inl (cm64, 10, .inl (fun _ => 0)))]) hP hD [53] [0, 1, 2, 3, 4, 5, 6, 7, 8, 9, 10, 11, 12, 13, 14, 15, 16, 17, 18, 19, 20, 21, 22, 23, 24, 25, 26, 27, 28, 29, 30, 31, 32, 33, 34, 35, 36, 37, 38, 39, 40, 41, 42, 43, 44, 45, 46, 47, 48, 49, 50, 51, 52] rfl rfl (by decide) (by decide) hk1 hFc hP1 hD1
  have hK := (hK.sub (tys' := [(cx7, .int), (cx8, .int), (cx9, .int), (cx10, .int), (cx11, .int), (cx18, .int), (cx19, .int), (cx20, .int), (cx21, .int), (cx22, .int), (cx27, .int), (cx28, .int), (cx29, .int), (cx34, .int), (cx35, .int), (cx36, .int), (cx41, .int), (cx42, .int), (cx43, .int), (cx49, .int), (cx50, .int), (cx51, .int), (cx52, .int), (cx64, .long), (cx65, .array .long), (cx66, .int), (cx67, .int), (cx68, .int), (cx72, .int), (cx73, .int), (cx79, .int), (cx80, .int), (cx81, .int), (cx82, .int), (cx84, .int), (cx86, .int), (cx88, .int), (cx90, .int)]) [0, 1, 2, 3, 4, 5, 6, 7, 8, 9, 10, 11, 12, 13, 14, 15, 16, 17, 18, 19, 20, 21, 22, 23, 24, 25, 26, 27, 28, 29, 30, 31, 32, 33, 34, 35, 36, 37] rfl).app hK1
  generalize H1 = H at hP hS ⊢
  have hP : va_P (dC, dI) vwCl [(x0, .inr (7, [.ref x1, .ref x12, .ref x23, .ref x30, .ref x37, .int 0, .int 0, .ref x44, .ref x53, .ref x69, .ref x74, .ref x83, .ref x85, .ref x87, .ref x89])), (x1, .inr (3, [.int 0, .ref x2, .ref x3, .int 0, .ref x4, .ref x5, .ref x6])), (x2, .inl (cx7, 10, .inl (fun _ => 0))), (x3, .inl (cx8, 10, .inl (fun _ => 0))), (x4, .inl (cx9, 12, .inl (fun _ => 0))), (x5, .inl (cx10, 12, .inl (fun _ => 0))), (x6, .inl (cx11, 12, .inl (fun _ => 0))), (x12, .inr (4, [.int 0, .ref x13, .ref x14, .int 0, .ref x15, .int 0, .int 0, .ref x16, .ref x17])), (x13, .inl (cx18, 120, .inl (fun _ => 0))), (x14, .inl (cx19, 121, .inl (fun _ => 0))), (x15, .inl (cx20, 121, .inl (fun _ => 0))), (x16, .inl (cx21, 6, .inl (fun _ => 0))), (x17, .inl (cx22, 121, .inl (fun _ => 0))), (x23, .inr (5, [.ref x24, .ref x25, .ref x26, .int 0, .int 0])), (x24, .inl (cx27, 12, .inl (fun _ => 0))), (x25, .inl (cx28, 12, .inl (fun _ => 0))), (x26, .inl (cx29, 6, .inl (fun _ => 0))), (x30, .inr (5, [.ref x31, .ref x32, .ref x33, .int 0, .int 0])), (x31, .inl (cx34, 12, .inl (fun _ => 0))), (x32, .inl (cx35, 12, .inl (fun _ => 0))), (x33, .inl (cx36, 6, .inl (fun _ => 0))), (x37, .inr (5, [.ref x38, .ref x39, .ref x40, .int 0, .int 0])), (x38, .inl (cx41, 12, .inl (fun _ => 0))), (x39, .inl (cx42, 12, .inl (fun _ => 0))), (x40, .inl (cx43, 6, .inl (fun _ => 0))), (x44, .inr (0, [.ref x45, .ref x46, .ref x47, .ref x48, .int 0, .int 0])), (x45, .inl (cx49, 40, .inl (fun _ => 0))), (x46, .inl (cx50, 40, .inl (fun _ => 0))), (x47, .inl (cx51, 40, .inl (fun _ => 0))), (x48, .inl (cx52, 40, .inl (fun _ => 0))), (x53, .inr (6, [.ref x54, .ref x61, .ref x62, .ref x63])), (x54, .inl (cx65, 6, .inr (.inr (.inr (.inr (fun i => if i < 6 then some (([x55, x56, x57, x58, x59, x60] : List Nat).getD i 0) else none)))))), (x55, .inl (cx64, 60, .inr (.inl (fun _ => 0)))), (x56, .inl (cx64, 60, .inr (.inl (fun _ => 0)))), (x57, .inl (cx64, 60, .inr (.inl (fun _ => 0)))), (x58, .inl (cx64, 60, .inr (.inl (fun _ => 0)))), (x59, .inl (cx64, 60, .inr (.inl (fun _ => 0)))), (x60, .inl (cx64, 60, .inr (.inl (fun _ => 0)))), (x61, .inl (cx66, 6, .inl (fun _ => 0))), (x62, .inl (cx67, 6, .inl (upd (upd (upd (upd (upd (upd (fun _ => 0) 0 (-1)) 1 (-1)) 2 (-1)) 3 (-1)) 4 (-1)) 5 (-1)))), (x63, .inl (cx68, 6, .inl (fun _ => 0))), (x69, .inr (1, [.int 0, .ref x70, .ref x71, .int 0, .int 0, .int 0])), (x70, .inl (cx72, 50, .inl (fun _ => 0))), (x71, .inl (cx73, 24, .inl (fun _ => 0))), (x74, .inr (2, [.ref x75, .ref x76, .ref x77, .ref x78, .int 0, .int 0, .int 0])), (x75, .inl (cx79, 12, .inl (fun _ => 0))), (x76, .inl (cx80, 12, .inl (fun _ => 0))), (x77, .inl (cx81, 12, .inl (fun _ => 0))), (x78, .inl (cx82, 12, .inl (fun _ => 0))), (x83, .inl (cx84, 2, .inl (fun _ => 0))), (x85, .inl (cx86, 12, .inl (fun _ => 0))), (x87, .inl (cx88, 12, .inl (fun _ => 0))), (x89, .inl (cx90, 10, .inl (fun _ => 0))), (m0, .inr (8, [.ref m1, .int 0, .ref m3, .ref m5, .int 0, .ref m7, .ref m9, .ref m11, .ref m13, .ref m15, .int 0, .int 0, .ref m17, .int 0, .int 0, .ref m19, .ref m21, .ref m23, .ref m25, .int 0, .int 0, .int 0, .int 0, .ref m27, .ref m29, .ref m31, .ref m33, .ref m35, .ref m37, .ref m39, .int 0, .int 0, .ref m41, .ref m43, .int 0, .int 0, .ref m45, .int 0, .ref m47, .int 0, .ref m49, .ref m51, .ref m53, .ref m55, .ref m57, .ref m59, .ref m61, .ref m63])), (m1, .inl (cm2, 12, .inl (fun _ => 0))), (m3, .inl (cm4, 10, .inl (fun _ => 0))), (m5, .inl (cm6, 10, .inl (fun _ => 0))), (m7, .inl (cm8, 12, .inl (fun _ => 0))), (m9, .inl (cm10, 12, .inl (fun _ => 0))), (m11, .inl (cm12, 12, .inl (fun _ => 0))), (m13, .inl (cm14, 12, .inl (fun _ => 0))), (m15, .inl (cm16, 12, .inl (fun _ => 0))), (m17, .inl (cm18, 120, .inl (fun _ => 0))), (m19, .inl (cm20, 60, .inl (fun _ => 0))), (m21, .inl (cm22, 60, .inl (fun _ => 0))), (m23, .inl (cm24, 60, .inl (fun _ => 0))), (m25, .inl (cm26, 200, .inl (fun _ => 0))), (m27, .inl (cm28, 61, .inl (fun _ => 0))), (m29, .inl (cm30, 61, .inl (fun _ => 0))), (m31, .inl (cm32, 61, .inl (fun _ => 0))), (m33, .inl (cm34, 200, .inl (fun _ => 0))), (m35, .inl (cm36, 200, .inl (fun _ => 0))), (m37, .inl (cm38, 6, .inl (fun _ => 0))), (m39, .inl (cm40, 6, .inl (fun _ => 0))), (m41, .inl (cm42, 37, .inl (fun _ => 0))), (m43, .inl (cm44, 6, .inl (fun _ => 0))), (m45, .inl (cm46, 160, .inl (fun _ => 0))), (m47, .inl (cm48, 50, .inl (fun _ => 0))), (m49, .inl (cm50, 24, .inl (fun _ => 0))), (m51, .inl (cm52, 6, .inl (upd (upd (upd (upd (upd (upd (fun _ => 0) 0 (-1)) 1 (-1)) 2 (-1)) 3 (-1)) 4 (-1)) 5 (-1)))), (m53, .inl (cm54, 6, .inl (fun _ => 0))), (m55, .inl (cm56, 360, .inr (.inl (fun _ => 0)))), (m57, .inl (cm58, 37, .inl (fun _ => 0))), (m59, .inl (cm60, 37, .inl (fun _ => 0))), (m61, .inl (cm62, 2, .inl (fun _ => 0))), (m63, .inl (cm64, 10, .inl (fun _ => 0)))] H := hP
  have hD : va_D (fun q : Nat => s.heap.size ≤ q) [(x0, .inr (7, [.ref x1, .ref x12, .ref x23, .ref x30, .ref x37, .int 0, .int 0, .ref x44, .ref x53, .ref x69, .ref x74, .ref x83, .ref x85, .ref x87, .ref x89])), (x1, .inr (3, [.int 0, .ref x2, .ref x3, .int 0, .ref x4, .ref x5, .ref x6])), (x2, .inl (cx7, 10, .inl (fun _ => 0))), (x3, .inl (cx8, 10, .inl (fun _ => 0))), (x4, .inl (cx9, 12, .inl (fun _ => 0))), (x5, .inl (cx10, 12, .inl (fun _ => 0))), (x6, .inl (cx11, 12, .inl (fun _ => 0))), (x12, .inr (4, [.int 0, .ref x13, .ref x14, .int 0, .ref x15, .int 0, .int 0, .ref x16, .ref x17])), (x13, .inl (cx18, 120, .inl (fun _ => 0))), (x14, .inl (cx19, 121, .inl (fun _ => 0))), (x15, .inl (cx20, 121, .inl (fun _ => 0))), (x16, .inl (cx21, 6, .inl (fun _ => 0))), (x17, .inl (cx22, 121, .inl (fun _ => 0))), (x23, .inr (5, [.ref x24, .ref x25, .ref x26, .int 0, .int 0])), (x24, .inl (cx27, 12, .inl (fun _ => 0))), (x25, .inl (cx28, 12, .inl (fun _ => 0))), (x26, .inl (cx29, 6, .inl (fun _ => 0))), (x30, .inr (5, [.ref x31, .ref x32, .ref x33, .int 0, .int 0])), (x31, .inl (cx34, 12, .inl (fun _ => 0))), (x32, .inl (cx35, 12, .inl (fun _ => 0))), (x33, .inl (cx36, 6, .inl (fun _ => 0))), (x37, .inr (5, [.ref x38, .ref x39, .ref x40, .int 0, .int 0])), (x38, .inl (cx41, 12, .inl (fun _ => 0))), (x39, .inl (cx42, 12, .inl (fun _ => 0))), (x40, .inl (cx43, 6, .inl (fun _ => 0))), (x44, .inr (0, [.ref x45, .ref x46, .ref x47, .ref x48, .int 0, .int 0])), (x45, .inl (cx49, 40, .inl (fun _ => 0))), (x46, .inl (cx50, 40, .inl (fun _ => 0))), (x47, .inl (cx51, 40, .inl (fun _ => 0))), (x48, .inl (cx52, 40, .inl (fun _ => 0))), (x53, .inr (6, [.ref x54, .ref x61, .ref x62, .ref x63])), (x54, .inl (cx65, 6, .inr (.inr (.inr (.inr (fun i => if i < 6 then some (([x55, x56, x57, x58, x59, x60] : List Nat).getD i 0) else none)))))), (x55, .inl (cx64, 60, .inr (.inl (fun _ => 0)))), (x56, .inl (cx64, 60, .inr (.inl (fun _ => 0)))), (x57, .inl (cx64, 60, .inr (.inl (fun _ => 0)))), (x58, .inl (cx64, 60, .inr (.inl (fun _ => 0)))), (x59, .inl (cx64, 60, .inr (.inl (fun _ => 0)))), (x60, .inl (cx64, 60, .inr (.inl (fun _ => 0)))), (x61, .inl (cx66, 6, .inl (fun _ => 0))), (x62, .inl (cx67, 6, .inl (upd (upd (upd (upd (upd (upd (fun _ => 0) 0 (-1)) 1 (-1)) 2 (-1)) 3 (-1)) 4 (-1)) 5 (-1)))), (x63, .inl (cx68, 6, .inl (fun _ => 0))), (x69, .inr (1, [.int 0, .ref x70, .ref x71, .int 0, .int 0, .int 0])), (x70, .inl (cx72, 50, .inl (fun _ => 0))), (x71, .inl (cx73, 24, .inl (fun _ => 0))), (x74, .inr (2, [.ref x75, .ref x76, .ref x77, .ref x78, .int 0, .int 0, .int 0])), (x75, .inl (cx79, 12, .inl (fun _ => 0))), (x76, .inl (cx80, 12, .inl (fun _ => 0))), (x77, .inl (cx81, 12, .inl (fun _ => 0))), (x78, .inl (cx82, 12, .inl (fun _ => 0))), (x83, .inl (cx84, 2, .inl (fun _ => 0))), (x85, .inl (cx86, 12, .inl (fun _ => 0))), (x87, .inl (cx88, 12, .inl (fun _ => 0))), (x89, .inl (cx90, 10, .inl (fun _ => 0))), (m0, .inr (8, [.ref m1, .int 0, .ref m3, .ref m5, .int 0, .ref m7, .ref m9, .ref m11, .ref m13, .ref m15, .int 0, .int 0, .ref m17, .int 0, .int 0, .ref m19, .ref m21, .ref m23, .ref m25, .int 0, .int 0, .int 0, .int 0, .ref m27, .ref m29, .ref m31, .ref m33, .ref m35, .ref m37, .ref m39, .int 0, .int 0, .ref m41, .ref m43, .int 0, .int 0, .ref m45, .int 0, .ref m47, .int 0, .ref m49, .ref m51, .ref m53, .ref m55, .ref m57, .ref m59, .ref m61, .ref m63])), (m1, .inl (cm2, 12, .inl (fun _ => 0))), (m3, .inl (cm4, 10, .inl (fun _ => 0))), (m5, .inl (cm6, 10, .inl (fun _ => 0))), (m7, .inl (cm8, 12, .inl (fun _ => 0))), (m9, .inl (cm10, 12, .inl (fun _ => 0))), (m11, .inl (cm12, 12, .inl (fun _ => 0))), (m13, .inl (cm14, 12, .inl (fun _ => 0))), (m15, .inl (cm16, 12, .inl (fun _ => 0))), (m17, .inl (cm18, 120, .inl (fun _ => 0))), (m19, .inl (cm20, 60, .inl (fun _ => 0))), (m21, .inl (cm22, 60, .inl (fun _ => 0))), (m23, .inl (cm24, 60, .inl (fun _ => 0))), (m25, .inl (cm26, 200, .inl (fun _ => 0))), (m27, .inl (cm28, 61, .inl (fun _ => 0))), (m29, .inl (cm30, 61, .inl (fun _ => 0))), (m31, .inl (cm32, 61, .inl (fun _ => 0))), (m33, .inl (cm34, 200, .inl (fun _ => 0))), (m35, .inl (cm36, 200, .inl (fun _ => 0))), (m37, .inl (cm38, 6, .inl (fun _ => 0))), (m39, .inl (cm40, 6, .inl (fun _ => 0))), (m41, .inl (cm42, 37, .inl (fun _ => 0))), (m43, .inl (cm44, 6, .inl (fun _ => 0))), (m45, .inl (cm46, 160, .inl (fun _ => 0))), (m47, .inl (cm48, 50, .inl (fun _ => 0))), (m49, .inl (cm50, 24, .inl (fun _ => 0))), (m51, .inl (cm52, 6, .inl (upd (upd (upd (upd (upd (upd (fun _ => 0) 0 (-1)) 1 (-1)) 2 (-1)) 3 (-1)) 4 (-1)) 5 (-1)))), (m53, .inl (cm54, 6, .inl (fun _ => 0))), (m55, .inl (cm56, 360, .inr (.inl (fun _ => 0)))), (m57, .inl (cm58, 37, .inl (fun _ => 0))), (m59, .inl (cm60, 37, .inl (fun _ => 0))), (m61, .inl (cm62, 2, .inl (fun _ => 0))), (m63, .inl (cm64, 10, .inl (fun _ => 0)))] := hD
  have hK : va_K (dC, dI) vwCl [(cx7, .int), (cx8, .int), (cx9, .int), (cx10, .int), (cx11, .int), (cx18, .int), (cx19, .int), (cx20, .int), (cx21, .int), (cx22, .int), (cx27, .int), (cx28, .int), (cx29, .int), (cx34, .int), (cx35, .int), (cx36, .int), (cx41, .int), (cx42, .int), (cx43, .int), (cx49, .int), (cx50, .int), (cx51, .int), (cx52, .int), (cx64, .long), (cx65, .array .long), (cx66, .int), (cx67, .int), (cx68, .int), (cx72, .int), (cx73, .int), (cx79, .int), (cx80, .int), (cx81, .int), (cx82, .int), (cx84, .int), (cx86, .int), (cx88, .int), (cx90, .int), (cm2, .int), (cm4, .int), (cm6, .int), (cm8, .int), (cm10, .int), (cm12, .int), (cm14, .int), (cm16, .int), (cm18, .int), (cm20, .int), (cm22, .int), (cm24, .int), (cm26, .int), (cm28, .int), (cm30, .int), (cm32, .int), (cm34, .int), (cm36, .int), (cm38, .int), (cm40, .int), (cm42, .int), (cm44, .int), (cm46, .int), (cm48, .int), (cm50, .int), (cm52, .int), (cm54, .int), (cm56, .long), (cm58, .int), (cm60, .int), (cm62, .int), (cm64, .int)] s := hK
  refine W.widen (k := 86) (n := 3376) (by omega) (by omega) ?_
  refine lv_astore_n (lv' := [(2, .ref m0), (1, .ref x0), (0, .ref b)]) hx hb dL_law_15 rfl hl (by decide) rfl (fun ls hl => ?_)
  refine lv_iconst (v := 0) hx hb dL_law_16 (by decide) ?_
  refine lv_istore_n (lv' := [(3, .int 0), (2, .ref m0), (1, .ref x0), (0, .ref b)]) hx hb dL_law_17 rfl hl (by decide) rfl (fun ls hl => ?_)
  have hs := flat_of_before _ hgv
  have hAn : ∀ a : Nat, a < s.heap.size → ¬ (fun q : Nat => s.heap.size ≤ q) a := fun a h => Nat.not_le.mpr h
  obtain ⟨t90, ht90, hT90⟩ := va_Tof (args := #[Value.ref b]) (s := s) (tm := (.static "ForgivenStreet" "LEAST" "[I")) (ty := .int) (N := 7) (f := fun j => .int (tbF 90 j)) (by decide) (hs (.arrayOf (.static "ForgivenStreet" "LEAST" "[I") .int) (by decide +kernel)) (va_eqt (hs (.eq (.length (.static "ForgivenStreet" "LEAST" "[I")) (.int 7)) (by decide +kernel))) (fun j hj => by
    rcases (show j = 0 ∨ j = 1 ∨ j = 2 ∨ j = 3 ∨ j = 4 ∨ j = 5 ∨ j = 6 by omega) with rfl | rfl | rfl | rfl | rfl | rfl | rfl
    · exact va_eqt (hs (.eq (.elem (.static "ForgivenStreet" "LEAST" "[I") (.int 0)) (.int 0)) (by decide +kernel))
    · exact va_eqt (hs (.eq (.elem (.static "ForgivenStreet" "LEAST" "[I") (.int 1)) (.int 0)) (by decide +kernel))
    · exact va_eqt (hs (.eq (.elem (.static "ForgivenStreet" "LEAST" "[I") (.int 2)) (.int 0)) (by decide +kernel))
    · exact va_eqt (hs (.eq (.elem (.static "ForgivenStreet" "LEAST" "[I") (.int 3)) (.int 1)) (by decide +kernel))
    · exact va_eqt (hs (.eq (.elem (.static "ForgivenStreet" "LEAST" "[I") (.int 4)) (.int 0)) (by decide +kernel))
    · exact va_eqt (hs (.eq (.elem (.static "ForgivenStreet" "LEAST" "[I") (.int 5)) (.int 0)) (by decide +kernel))
    · exact va_eqt (hs (.eq (.elem (.static "ForgivenStreet" "LEAST" "[I") (.int 6)) (.int 0)) (by decide +kernel))) hAn
  have hZ90 : va_Z RX7 "LEAST" "[I" (.ref t90) (fun q : Nat => s.heap.size ≤ q) s s.heap := va_Zof (hts0 _ ls_X7_LEAST) (hts0 _ ini_X7) ht90 hAn
  obtain ⟨t91, ht91, hT91⟩ := va_Tof (args := #[Value.ref b]) (s := s) (tm := (.static "ForgivenStreet" "MOST" "[I")) (ty := .int) (N := 7) (f := fun j => .int (tbF 91 j)) (by decide) (hs (.arrayOf (.static "ForgivenStreet" "MOST" "[I") .int) (by decide +kernel)) (va_eqt (hs (.eq (.length (.static "ForgivenStreet" "MOST" "[I")) (.int 7)) (by decide +kernel))) (fun j hj => by
    rcases (show j = 0 ∨ j = 1 ∨ j = 2 ∨ j = 3 ∨ j = 4 ∨ j = 5 ∨ j = 6 by omega) with rfl | rfl | rfl | rfl | rfl | rfl | rfl
    · exact va_eqt (hs (.eq (.elem (.static "ForgivenStreet" "MOST" "[I") (.int 0)) (.int 999)) (by decide +kernel))
    · exact va_eqt (hs (.eq (.elem (.static "ForgivenStreet" "MOST" "[I") (.int 1)) (.int 11)) (by decide +kernel))
    · exact va_eqt (hs (.eq (.elem (.static "ForgivenStreet" "MOST" "[I") (.int 2)) (.int 12)) (by decide +kernel))
    · exact va_eqt (hs (.eq (.elem (.static "ForgivenStreet" "MOST" "[I") (.int 3)) (.int 9)) (by decide +kernel))
    · exact va_eqt (hs (.eq (.elem (.static "ForgivenStreet" "MOST" "[I") (.int 4)) (.int 99)) (by decide +kernel))
    · exact va_eqt (hs (.eq (.elem (.static "ForgivenStreet" "MOST" "[I") (.int 5)) (.int 1)) (by decide +kernel))
    · exact va_eqt (hs (.eq (.elem (.static "ForgivenStreet" "MOST" "[I") (.int 6)) (.int 99)) (by decide +kernel))) hAn
  have hZ91 : va_Z RX7 "MOST" "[I" (.ref t91) (fun q : Nat => s.heap.size ≤ q) s s.heap := va_Zof (hts0 _ ls_X7_MOST) (hts0 _ ini_X7) ht91 hAn
  obtain ⟨t92, ht92, hT92⟩ := va_Tof (args := #[Value.ref b]) (s := s) (tm := (.static "ForgivenStreet$Doors" "ABOVE" "[I")) (ty := .int) (N := 8) (f := fun j => .int (tbF 92 j)) (by decide) (hs (.arrayOf (.static "ForgivenStreet$Doors" "ABOVE" "[I") .int) (by decide +kernel)) (va_eqt (hs (.eq (.length (.static "ForgivenStreet$Doors" "ABOVE" "[I")) (.int 8)) (by decide +kernel))) (fun j hj => by
    rcases (show j = 0 ∨ j = 1 ∨ j = 2 ∨ j = 3 ∨ j = 4 ∨ j = 5 ∨ j = 6 ∨ j = 7 by omega) with rfl | rfl | rfl | rfl | rfl | rfl | rfl | rfl
    · exact va_eqt (hs (.eq (.elem (.static "ForgivenStreet$Doors" "ABOVE" "[I") (.int 0)) (.int (-1))) (by decide +kernel))
    · exact va_eqt (hs (.eq (.elem (.static "ForgivenStreet$Doors" "ABOVE" "[I") (.int 1)) (.int 0)) (by decide +kernel))
    · exact va_eqt (hs (.eq (.elem (.static "ForgivenStreet$Doors" "ABOVE" "[I") (.int 2)) (.int 0)) (by decide +kernel))
    · exact va_eqt (hs (.eq (.elem (.static "ForgivenStreet$Doors" "ABOVE" "[I") (.int 3)) (.int 2)) (by decide +kernel))
    · exact va_eqt (hs (.eq (.elem (.static "ForgivenStreet$Doors" "ABOVE" "[I") (.int 4)) (.int 1)) (by decide +kernel))
    · exact va_eqt (hs (.eq (.elem (.static "ForgivenStreet$Doors" "ABOVE" "[I") (.int 5)) (.int 3)) (by decide +kernel))
    · exact va_eqt (hs (.eq (.elem (.static "ForgivenStreet$Doors" "ABOVE" "[I") (.int 6)) (.int 0)) (by decide +kernel))
    · exact va_eqt (hs (.eq (.elem (.static "ForgivenStreet$Doors" "ABOVE" "[I") (.int 7)) (.int 4)) (by decide +kernel))) hAn
  have hZ92 : va_Z RX1 "ABOVE" "[I" (.ref t92) (fun q : Nat => s.heap.size ≤ q) s s.heap := va_Zof (hts0 _ ls_X1_ABOVE) (hts0 _ ini_X1) ht92 hAn
  obtain ⟨t93, ht93, hT93⟩ := va_Tof (args := #[Value.ref b]) (s := s) (tm := (.static "ForgivenStreet$Doors" "OWN" "[I")) (ty := .int) (N := 32) (f := fun j => .int (tbF 93 j)) (by decide) (hs (.arrayOf (.static "ForgivenStreet$Doors" "OWN" "[I") .int) (by decide +kernel)) (va_eqt (hs (.eq (.length (.static "ForgivenStreet$Doors" "OWN" "[I")) (.int 32)) (by decide +kernel))) (fun j hj => by
    rcases (show j = 0 ∨ j = 1 ∨ j = 2 ∨ j = 3 ∨ j = 4 ∨ j = 5 ∨ j = 6 ∨ j = 7 ∨ j = 8 ∨ j = 9 ∨ j = 10 ∨ j = 11 ∨ j = 12 ∨ j = 13 ∨ j = 14 ∨ j = 15 ∨ j = 16 ∨ j = 17 ∨ j = 18 ∨ j = 19 ∨ j = 20 ∨ j = 21 ∨ j = 22 ∨ j = 23 ∨ j = 24 ∨ j = 25 ∨ j = 26 ∨ j = 27 ∨ j = 28 ∨ j = 29 ∨ j = 30 ∨ j = 31 by omega) with rfl | rfl | rfl | rfl | rfl | rfl | rfl | rfl | rfl | rfl | rfl | rfl | rfl | rfl | rfl | rfl | rfl | rfl | rfl | rfl | rfl | rfl | rfl | rfl | rfl | rfl | rfl | rfl | rfl | rfl | rfl | rfl
    · exact va_eqt (hs (.eq (.elem (.static "ForgivenStreet$Doors" "OWN" "[I") (.int 0)) (.int 1)) (by decide +kernel))
    · exact va_eqt (hs (.eq (.elem (.static "ForgivenStreet$Doors" "OWN" "[I") (.int 1)) (.int 10)) (by decide +kernel))
    · exact va_eqt (hs (.eq (.elem (.static "ForgivenStreet$Doors" "OWN" "[I") (.int 2)) (.int 11)) (by decide +kernel))
    · exact va_eqt (hs (.eq (.elem (.static "ForgivenStreet$Doors" "OWN" "[I") (.int 3)) (.int 2)) (by decide +kernel))
    · exact va_eqt (hs (.eq (.elem (.static "ForgivenStreet$Doors" "OWN" "[I") (.int 4)) (.int 20)) (by decide +kernel))
    · exact va_eqt (hs (.eq (.elem (.static "ForgivenStreet$Doors" "OWN" "[I") (.int 5)) (.int 0)) (by decide +kernel))
    · exact va_eqt (hs (.eq (.elem (.static "ForgivenStreet$Doors" "OWN" "[I") (.int 6)) (.int 0)) (by decide +kernel))
    · exact va_eqt (hs (.eq (.elem (.static "ForgivenStreet$Doors" "OWN" "[I") (.int 7)) (.int 0)) (by decide +kernel))
    · exact va_eqt (hs (.eq (.elem (.static "ForgivenStreet$Doors" "OWN" "[I") (.int 8)) (.int 0)) (by decide +kernel))
    · exact va_eqt (hs (.eq (.elem (.static "ForgivenStreet$Doors" "OWN" "[I") (.int 9)) (.int 30)) (by decide +kernel))
    · exact va_eqt (hs (.eq (.elem (.static "ForgivenStreet$Doors" "OWN" "[I") (.int 10)) (.int 0)) (by decide +kernel))
    · exact va_eqt (hs (.eq (.elem (.static "ForgivenStreet$Doors" "OWN" "[I") (.int 11)) (.int 0)) (by decide +kernel))
    · exact va_eqt (hs (.eq (.elem (.static "ForgivenStreet$Doors" "OWN" "[I") (.int 12)) (.int 0)) (by decide +kernel))
    · exact va_eqt (hs (.eq (.elem (.static "ForgivenStreet$Doors" "OWN" "[I") (.int 13)) (.int 41)) (by decide +kernel))
    · exact va_eqt (hs (.eq (.elem (.static "ForgivenStreet$Doors" "OWN" "[I") (.int 14)) (.int 40)) (by decide +kernel))
    · exact va_eqt (hs (.eq (.elem (.static "ForgivenStreet$Doors" "OWN" "[I") (.int 15)) (.int 0)) (by decide +kernel))
    · exact va_eqt (hs (.eq (.elem (.static "ForgivenStreet$Doors" "OWN" "[I") (.int 16)) (.int 0)) (by decide +kernel))
    · exact va_eqt (hs (.eq (.elem (.static "ForgivenStreet$Doors" "OWN" "[I") (.int 17)) (.int 0)) (by decide +kernel))
    · exact va_eqt (hs (.eq (.elem (.static "ForgivenStreet$Doors" "OWN" "[I") (.int 18)) (.int 50)) (by decide +kernel))
    · exact va_eqt (hs (.eq (.elem (.static "ForgivenStreet$Doors" "OWN" "[I") (.int 19)) (.int 0)) (by decide +kernel))
    · exact va_eqt (hs (.eq (.elem (.static "ForgivenStreet$Doors" "OWN" "[I") (.int 20)) (.int 0)) (by decide +kernel))
    · exact va_eqt (hs (.eq (.elem (.static "ForgivenStreet$Doors" "OWN" "[I") (.int 21)) (.int 0)) (by decide +kernel))
    · exact va_eqt (hs (.eq (.elem (.static "ForgivenStreet$Doors" "OWN" "[I") (.int 22)) (.int 0)) (by decide +kernel))
    · exact va_eqt (hs (.eq (.elem (.static "ForgivenStreet$Doors" "OWN" "[I") (.int 23)) (.int 60)) (by decide +kernel))
    · exact va_eqt (hs (.eq (.elem (.static "ForgivenStreet$Doors" "OWN" "[I") (.int 24)) (.int 70)) (by decide +kernel))
    · exact va_eqt (hs (.eq (.elem (.static "ForgivenStreet$Doors" "OWN" "[I") (.int 25)) (.int 0)) (by decide +kernel))
    · exact va_eqt (hs (.eq (.elem (.static "ForgivenStreet$Doors" "OWN" "[I") (.int 26)) (.int 0)) (by decide +kernel))
    · exact va_eqt (hs (.eq (.elem (.static "ForgivenStreet$Doors" "OWN" "[I") (.int 27)) (.int 0)) (by decide +kernel))
    · exact va_eqt (hs (.eq (.elem (.static "ForgivenStreet$Doors" "OWN" "[I") (.int 28)) (.int 0)) (by decide +kernel))
    · exact va_eqt (hs (.eq (.elem (.static "ForgivenStreet$Doors" "OWN" "[I") (.int 29)) (.int 80)) (by decide +kernel))
    · exact va_eqt (hs (.eq (.elem (.static "ForgivenStreet$Doors" "OWN" "[I") (.int 30)) (.int 0)) (by decide +kernel))
    · exact va_eqt (hs (.eq (.elem (.static "ForgivenStreet$Doors" "OWN" "[I") (.int 31)) (.int 81)) (by decide +kernel))) hAn
  have hZ93 : va_Z RX1 "OWN" "[I" (.ref t93) (fun q : Nat => s.heap.size ≤ q) s s.heap := va_Zof (hts0 _ ls_X1_OWN) (hts0 _ ini_X1) ht93 hAn
  obtain ⟨ρ, hρ⟩ : ∃ f : Nat → Nat, f = fun k => ([x0, x1, x2, x3, x4, x5, x6, x12, x13, x14, x15, x16, x17, x23, x24, x25, x26, x30, x31, x32, x33, x37, x38, x39, x40, x44, x45, x46, x47, x48, x53, x54, x55, x56, x57, x58, x59, x60, x61, x62, x63, x69, x70, x71, x74, x75, x76, x77, x78, x83, x85, x87, x89, m0, m1, m3, m5, m7, m9, m11, m13, m15, m17, m19, m21, m23, m25, m27, m29, m31, m33, m35, m37, m39, m41, m43, m45, m47, m49, m51, m53, m55, m57, m59, m61, m63, 0, 0, 0, 0, t90, t91, t92, t93, b] : List Nat).getD k 0 := ⟨_, rfl⟩
  obtain ⟨CA, hCA⟩ : ∃ f : Nat → ClassId, f = fun k => ([0, 0, cx7, cx8, cx9, cx10, cx11, 0, cx18, cx19, cx20, cx21, cx22, 0, cx27, cx28, cx29, 0, cx34, cx35, cx36, 0, cx41, cx42, cx43, 0, cx49, cx50, cx51, cx52, 0, cx65, cx64, cx64, cx64, cx64, cx64, cx64, cx66, cx67, cx68, 0, cx72, cx73, 0, cx79, cx80, cx81, cx82, cx84, cx86, cx88, cx90, 0, cm2, cm4, cm6, cm8, cm10, cm12, cm14, cm16, cm18, cm20, cm22, cm24, cm26, cm28, cm30, cm32, cm34, cm36, cm38, cm40, cm42, cm44, cm46, cm48, cm50, cm52, cm54, cm56, cm58, cm60, cm62, cm64] : List ClassId).getD k 0 := ⟨_, rfl⟩
  have hz : ∀ k, k < 86 → va_at (dC, dI) vwCl (ρ k, ent ρ CA h00 k) H := by
    subst hρ hCA
    intro k hk
    match k, hk with
    | 0, _ => exact hP 0 _ rfl
    | 1, _ => exact hP 1 _ rfl
    | 2, _ => exact hP 2 _ rfl
    | 3, _ => exact hP 3 _ rfl
    | 4, _ => exact hP 4 _ rfl
    | 5, _ => exact hP 5 _ rfl
    | 6, _ => exact hP 6 _ rfl
    | 7, _ => exact hP 7 _ rfl
    | 8, _ => exact hP 8 _ rfl
    | 9, _ => exact hP 9 _ rfl
    | 10, _ => exact hP 10 _ rfl
    | 11, _ => exact hP 11 _ rfl
    | 12, _ => exact hP 12 _ rfl
    | 13, _ => exact hP 13 _ rfl
    | 14, _ => exact hP 14 _ rfl
    | 15, _ => exact hP 15 _ rfl
    | 16, _ => exact hP 16 _ rfl
    | 17, _ => exact hP 17 _ rfl
    | 18, _ => exact hP 18 _ rfl
    | 19, _ => exact hP 19 _ rfl
    | 20, _ => exact hP 20 _ rfl
    | 21, _ => exact hP 21 _ rfl
    | 22, _ => exact hP 22 _ rfl
    | 23, _ => exact hP 23 _ rfl
    | 24, _ => exact hP 24 _ rfl
    | 25, _ => exact hP 25 _ rfl
    | 26, _ => exact hP 26 _ rfl
    | 27, _ => exact hP 27 _ rfl
    | 28, _ => exact hP 28 _ rfl
    | 29, _ => exact hP 29 _ rfl
    | 30, _ => exact hP 30 _ rfl
    | 31, _ =>
      have h9 := hP 31 _ rfl
      rw [ent_r rfl]
      refine (congrArg (fun f => va_at (dC, dI) vwCl (x54, .inl (cx65, 6, .inr (.inr (.inr (.inr f))))) H) ?_).mp h9
      funext j
      by_cases hj : j < 6
      · rw [if_pos hj]
        show _ = if j < 6 then _ else _
        rw [if_pos hj]
        rcases (show j = 0 ∨ j = 1 ∨ j = 2 ∨ j = 3 ∨ j = 4 ∨ j = 5 by omega) with rfl | rfl | rfl | rfl | rfl | rfl <;> rfl
      · rw [if_neg hj]
        show _ = if j < 6 then _ else _
        rw [if_neg hj]
    | 32, _ => exact hP 32 _ rfl
    | 33, _ => exact hP 33 _ rfl
    | 34, _ => exact hP 34 _ rfl
    | 35, _ => exact hP 35 _ rfl
    | 36, _ => exact hP 36 _ rfl
    | 37, _ => exact hP 37 _ rfl
    | 38, _ => exact hP 38 _ rfl
    | 39, _ => exact hP 39 _ rfl
    | 40, _ => exact hP 40 _ rfl
    | 41, _ => exact hP 41 _ rfl
    | 42, _ => exact hP 42 _ rfl
    | 43, _ => exact hP 43 _ rfl
    | 44, _ => exact hP 44 _ rfl
    | 45, _ => exact hP 45 _ rfl
    | 46, _ => exact hP 46 _ rfl
    | 47, _ => exact hP 47 _ rfl
    | 48, _ => exact hP 48 _ rfl
    | 49, _ => exact hP 49 _ rfl
    | 50, _ => exact hP 50 _ rfl
    | 51, _ => exact hP 51 _ rfl
    | 52, _ => exact hP 52 _ rfl
    | 53, _ => exact hP 53 _ rfl
    | 54, _ => exact hP 54 _ rfl
    | 55, _ => exact hP 55 _ rfl
    | 56, _ => exact hP 56 _ rfl
    | 57, _ => exact hP 57 _ rfl
    | 58, _ => exact hP 58 _ rfl
    | 59, _ => exact hP 59 _ rfl
    | 60, _ => exact hP 60 _ rfl
    | 61, _ => exact hP 61 _ rfl
    | 62, _ => exact hP 62 _ rfl
    | 63, _ => exact hP 63 _ rfl
    | 64, _ => exact hP 64 _ rfl
    | 65, _ => exact hP 65 _ rfl
    | 66, _ => exact hP 66 _ rfl
    | 67, _ => exact hP 67 _ rfl
    | 68, _ => exact hP 68 _ rfl
    | 69, _ => exact hP 69 _ rfl
    | 70, _ => exact hP 70 _ rfl
    | 71, _ => exact hP 71 _ rfl
    | 72, _ => exact hP 72 _ rfl
    | 73, _ => exact hP 73 _ rfl
    | 74, _ => exact hP 74 _ rfl
    | 75, _ => exact hP 75 _ rfl
    | 76, _ => exact hP 76 _ rfl
    | 77, _ => exact hP 77 _ rfl
    | 78, _ => exact hP 78 _ rfl
    | 79, _ => exact hP 79 _ rfl
    | 80, _ => exact hP 80 _ rfl
    | 81, _ => exact hP 81 _ rfl
    | 82, _ => exact hP 82 _ rfl
    | 83, _ => exact hP 83 _ rfl
    | 84, _ => exact hP 84 _ rfl
    | 85, _ => exact hP 85 _ rfl
    | k + 86, hk => exact absurd hk (by omega)
  have had : ∀ k, k < 86 → ∃ e, ([(x0, .inr (7, [.ref x1, .ref x12, .ref x23, .ref x30, .ref x37, .int 0, .int 0, .ref x44, .ref x53, .ref x69, .ref x74, .ref x83, .ref x85, .ref x87, .ref x89])), (x1, .inr (3, [.int 0, .ref x2, .ref x3, .int 0, .ref x4, .ref x5, .ref x6])), (x2, .inl (cx7, 10, .inl (fun _ => 0))), (x3, .inl (cx8, 10, .inl (fun _ => 0))), (x4, .inl (cx9, 12, .inl (fun _ => 0))), (x5, .inl (cx10, 12, .inl (fun _ => 0))), (x6, .inl (cx11, 12, .inl (fun _ => 0))), (x12, .inr (4, [.int 0, .ref x13, .ref x14, .int 0, .ref x15, .int 0, .int 0, .ref x16, .ref x17])), (x13, .inl (cx18, 120, .inl (fun _ => 0))), (x14, .inl (cx19, 121, .inl (fun _ => 0))), (x15, .inl (cx20, 121, .inl (fun _ => 0))), (x16, .inl (cx21, 6, .inl (fun _ => 0))), (x17, .inl (cx22, 121, .inl (fun _ => 0))), (x23, .inr (5, [.ref x24, .ref x25, .ref x26, .int 0, .int 0])), (x24, .inl (cx27, 12, .inl (fun _ => 0))), (x25, .inl (cx28, 12, .inl (fun _ => 0))), (x26, .inl (cx29, 6, .inl (fun _ => 0))), (x30, .inr (5, [.ref x31, .ref x32, .ref x33, .int 0, .int 0])), (x31, .inl (cx34, 12, .inl (fun _ => 0))), (x32, .inl (cx35, 12, .inl (fun _ => 0))), (x33, .inl (cx36, 6, .inl (fun _ => 0))), (x37, .inr (5, [.ref x38, .ref x39, .ref x40, .int 0, .int 0])), (x38, .inl (cx41, 12, .inl (fun _ => 0))), (x39, .inl (cx42, 12, .inl (fun _ => 0))), (x40, .inl (cx43, 6, .inl (fun _ => 0))), (x44, .inr (0, [.ref x45, .ref x46, .ref x47, .ref x48, .int 0, .int 0])), (x45, .inl (cx49, 40, .inl (fun _ => 0))), (x46, .inl (cx50, 40, .inl (fun _ => 0))), (x47, .inl (cx51, 40, .inl (fun _ => 0))), (x48, .inl (cx52, 40, .inl (fun _ => 0))), (x53, .inr (6, [.ref x54, .ref x61, .ref x62, .ref x63])), (x54, .inl (cx65, 6, .inr (.inr (.inr (.inr (fun i => if i < 6 then some (([x55, x56, x57, x58, x59, x60] : List Nat).getD i 0) else none)))))), (x55, .inl (cx64, 60, .inr (.inl (fun _ => 0)))), (x56, .inl (cx64, 60, .inr (.inl (fun _ => 0)))), (x57, .inl (cx64, 60, .inr (.inl (fun _ => 0)))), (x58, .inl (cx64, 60, .inr (.inl (fun _ => 0)))), (x59, .inl (cx64, 60, .inr (.inl (fun _ => 0)))), (x60, .inl (cx64, 60, .inr (.inl (fun _ => 0)))), (x61, .inl (cx66, 6, .inl (fun _ => 0))), (x62, .inl (cx67, 6, .inl (upd (upd (upd (upd (upd (upd (fun _ => 0) 0 (-1)) 1 (-1)) 2 (-1)) 3 (-1)) 4 (-1)) 5 (-1)))), (x63, .inl (cx68, 6, .inl (fun _ => 0))), (x69, .inr (1, [.int 0, .ref x70, .ref x71, .int 0, .int 0, .int 0])), (x70, .inl (cx72, 50, .inl (fun _ => 0))), (x71, .inl (cx73, 24, .inl (fun _ => 0))), (x74, .inr (2, [.ref x75, .ref x76, .ref x77, .ref x78, .int 0, .int 0, .int 0])), (x75, .inl (cx79, 12, .inl (fun _ => 0))), (x76, .inl (cx80, 12, .inl (fun _ => 0))), (x77, .inl (cx81, 12, .inl (fun _ => 0))), (x78, .inl (cx82, 12, .inl (fun _ => 0))), (x83, .inl (cx84, 2, .inl (fun _ => 0))), (x85, .inl (cx86, 12, .inl (fun _ => 0))), (x87, .inl (cx88, 12, .inl (fun _ => 0))), (x89, .inl (cx90, 10, .inl (fun _ => 0))), (m0, .inr (8, [.ref m1, .int 0, .ref m3, .ref m5, .int 0, .ref m7, .ref m9, .ref m11, .ref m13, .ref m15, .int 0, .int 0, .ref m17, .int 0, .int 0, .ref m19, .ref m21, .ref m23, .ref m25, .int 0, .int 0, .int 0, .int 0, .ref m27, .ref m29, .ref m31, .ref m33, .ref m35, .ref m37, .ref m39, .int 0, .int 0, .ref m41, .ref m43, .int 0, .int 0, .ref m45, .int 0, .ref m47, .int 0, .ref m49, .ref m51, .ref m53, .ref m55, .ref m57, .ref m59, .ref m61, .ref m63])), (m1, .inl (cm2, 12, .inl (fun _ => 0))), (m3, .inl (cm4, 10, .inl (fun _ => 0))), (m5, .inl (cm6, 10, .inl (fun _ => 0))), (m7, .inl (cm8, 12, .inl (fun _ => 0))), (m9, .inl (cm10, 12, .inl (fun _ => 0))), (m11, .inl (cm12, 12, .inl (fun _ => 0))), (m13, .inl (cm14, 12, .inl (fun _ => 0))), (m15, .inl (cm16, 12, .inl (fun _ => 0))), (m17, .inl (cm18, 120, .inl (fun _ => 0))), (m19, .inl (cm20, 60, .inl (fun _ => 0))), (m21, .inl (cm22, 60, .inl (fun _ => 0))), (m23, .inl (cm24, 60, .inl (fun _ => 0))), (m25, .inl (cm26, 200, .inl (fun _ => 0))), (m27, .inl (cm28, 61, .inl (fun _ => 0))), (m29, .inl (cm30, 61, .inl (fun _ => 0))), (m31, .inl (cm32, 61, .inl (fun _ => 0))), (m33, .inl (cm34, 200, .inl (fun _ => 0))), (m35, .inl (cm36, 200, .inl (fun _ => 0))), (m37, .inl (cm38, 6, .inl (fun _ => 0))), (m39, .inl (cm40, 6, .inl (fun _ => 0))), (m41, .inl (cm42, 37, .inl (fun _ => 0))), (m43, .inl (cm44, 6, .inl (fun _ => 0))), (m45, .inl (cm46, 160, .inl (fun _ => 0))), (m47, .inl (cm48, 50, .inl (fun _ => 0))), (m49, .inl (cm50, 24, .inl (fun _ => 0))), (m51, .inl (cm52, 6, .inl (upd (upd (upd (upd (upd (upd (fun _ => 0) 0 (-1)) 1 (-1)) 2 (-1)) 3 (-1)) 4 (-1)) 5 (-1)))), (m53, .inl (cm54, 6, .inl (fun _ => 0))), (m55, .inl (cm56, 360, .inr (.inl (fun _ => 0)))), (m57, .inl (cm58, 37, .inl (fun _ => 0))), (m59, .inl (cm60, 37, .inl (fun _ => 0))), (m61, .inl (cm62, 2, .inl (fun _ => 0))), (m63, .inl (cm64, 10, .inl (fun _ => 0)))] : va_W)[k]? = some (ρ k, e) := by
    subst hρ
    intro k hk
    match k, hk with
    | 0, _ => exact ⟨_, rfl⟩
    | 1, _ => exact ⟨_, rfl⟩
    | 2, _ => exact ⟨_, rfl⟩
    | 3, _ => exact ⟨_, rfl⟩
    | 4, _ => exact ⟨_, rfl⟩
    | 5, _ => exact ⟨_, rfl⟩
    | 6, _ => exact ⟨_, rfl⟩
    | 7, _ => exact ⟨_, rfl⟩
    | 8, _ => exact ⟨_, rfl⟩
    | 9, _ => exact ⟨_, rfl⟩
    | 10, _ => exact ⟨_, rfl⟩
    | 11, _ => exact ⟨_, rfl⟩
    | 12, _ => exact ⟨_, rfl⟩
    | 13, _ => exact ⟨_, rfl⟩
    | 14, _ => exact ⟨_, rfl⟩
    | 15, _ => exact ⟨_, rfl⟩
    | 16, _ => exact ⟨_, rfl⟩
    | 17, _ => exact ⟨_, rfl⟩
    | 18, _ => exact ⟨_, rfl⟩
    | 19, _ => exact ⟨_, rfl⟩
    | 20, _ => exact ⟨_, rfl⟩
    | 21, _ => exact ⟨_, rfl⟩
    | 22, _ => exact ⟨_, rfl⟩
    | 23, _ => exact ⟨_, rfl⟩
    | 24, _ => exact ⟨_, rfl⟩
    | 25, _ => exact ⟨_, rfl⟩
    | 26, _ => exact ⟨_, rfl⟩
    | 27, _ => exact ⟨_, rfl⟩
    | 28, _ => exact ⟨_, rfl⟩
    | 29, _ => exact ⟨_, rfl⟩
    | 30, _ => exact ⟨_, rfl⟩
    | 31, _ => exact ⟨_, rfl⟩
    | 32, _ => exact ⟨_, rfl⟩
    | 33, _ => exact ⟨_, rfl⟩
    | 34, _ => exact ⟨_, rfl⟩
    | 35, _ => exact ⟨_, rfl⟩
    | 36, _ => exact ⟨_, rfl⟩
    | 37, _ => exact ⟨_, rfl⟩
    | 38, _ => exact ⟨_, rfl⟩
    | 39, _ => exact ⟨_, rfl⟩
    | 40, _ => exact ⟨_, rfl⟩
    | 41, _ => exact ⟨_, rfl⟩
    | 42, _ => exact ⟨_, rfl⟩
    | 43, _ => exact ⟨_, rfl⟩
    | 44, _ => exact ⟨_, rfl⟩
    | 45, _ => exact ⟨_, rfl⟩
    | 46, _ => exact ⟨_, rfl⟩
    | 47, _ => exact ⟨_, rfl⟩
    | 48, _ => exact ⟨_, rfl⟩
    | 49, _ => exact ⟨_, rfl⟩
    | 50, _ => exact ⟨_, rfl⟩
    | 51, _ => exact ⟨_, rfl⟩
    | 52, _ => exact ⟨_, rfl⟩
    | 53, _ => exact ⟨_, rfl⟩
    | 54, _ => exact ⟨_, rfl⟩
    | 55, _ => exact ⟨_, rfl⟩
    | 56, _ => exact ⟨_, rfl⟩
    | 57, _ => exact ⟨_, rfl⟩
    | 58, _ => exact ⟨_, rfl⟩
    | 59, _ => exact ⟨_, rfl⟩
    | 60, _ => exact ⟨_, rfl⟩
    | 61, _ => exact ⟨_, rfl⟩
    | 62, _ => exact ⟨_, rfl⟩
    | 63, _ => exact ⟨_, rfl⟩
    | 64, _ => exact ⟨_, rfl⟩
    | 65, _ => exact ⟨_, rfl⟩
    | 66, _ => exact ⟨_, rfl⟩
    | 67, _ => exact ⟨_, rfl⟩
    | 68, _ => exact ⟨_, rfl⟩
    | 69, _ => exact ⟨_, rfl⟩
    | 70, _ => exact ⟨_, rfl⟩
    | 71, _ => exact ⟨_, rfl⟩
    | 72, _ => exact ⟨_, rfl⟩
    | 73, _ => exact ⟨_, rfl⟩
    | 74, _ => exact ⟨_, rfl⟩
    | 75, _ => exact ⟨_, rfl⟩
    | 76, _ => exact ⟨_, rfl⟩
    | 77, _ => exact ⟨_, rfl⟩
    | 78, _ => exact ⟨_, rfl⟩
    | 79, _ => exact ⟨_, rfl⟩
    | 80, _ => exact ⟨_, rfl⟩
    | 81, _ => exact ⟨_, rfl⟩
    | 82, _ => exact ⟨_, rfl⟩
    | 83, _ => exact ⟨_, rfl⟩
    | 84, _ => exact ⟨_, rfl⟩
    | 85, _ => exact ⟨_, rfl⟩
    | k + 86, hk => exact absurd hk (by omega)
  have hZD : ∀ h : Hp, va_D (fun q : Nat => s.heap.size ≤ q) (wld ρ CA h) := by
    intro h
    have key : ∀ (k : Nat) (q : Nat × va_E), (wld ρ CA h)[k]? = some q → k < 86 ∧ q.1 = ρ k := by
      intro k q hq
      have hk : k < 86 := by
        have := (List.getElem?_eq_some_iff.mp hq).1
        rwa [wld_len] at this
      rw [wld_at hk] at hq
      cases hq
      exact ⟨hk, rfl⟩
    refine ⟨fun i j x y hi hj hxy => ?_, fun k q hq => ?_⟩
    · obtain ⟨h1, h2⟩ := key i x hi
      obtain ⟨h3, h4⟩ := key j y hj
      obtain ⟨e1, g1⟩ := had i h1
      obtain ⟨e2, g2⟩ := had j h3
      exact hD.1 i j _ _ g1 g2 (by show ρ i = ρ j; rw [← h2, ← h4]; exact hxy)
    · obtain ⟨h1, h2⟩ := key k q hq
      obtain ⟨e1, g1⟩ := had k h1
      rw [h2]
      exact hD.2 k _ g1
  have hZP : va_P (dC, dI) vwCl (wld ρ CA h00) H := by
    intro k q hq
    have hk : k < 86 := by
      have := (List.getElem?_eq_some_iff.mp hq).1
      rwa [wld_len] at this
    rw [wld_at hk] at hq
    cases hq
    exact hz k hk
  have hZK : ∀ k, k < 86 → (sh k).1 ≠ 0 → ArrOfT s (CA k) (tyk k) ∧ va_RA s (CA k) (tyk k) := by
    subst hCA
    intro k hk h0
    match k, hk, h0 with
    | 0, _, h0 => exact absurd rfl h0
    | 1, _, h0 => exact absurd rfl h0
    | 2, _, _ => exact hK.2 0 _ rfl
    | 3, _, _ => exact hK.2 1 _ rfl
    | 4, _, _ => exact hK.2 2 _ rfl
    | 5, _, _ => exact hK.2 3 _ rfl
    | 6, _, _ => exact hK.2 4 _ rfl
    | 7, _, h0 => exact absurd rfl h0
    | 8, _, _ => exact hK.2 5 _ rfl
    | 9, _, _ => exact hK.2 6 _ rfl
    | 10, _, _ => exact hK.2 7 _ rfl
    | 11, _, _ => exact hK.2 8 _ rfl
    | 12, _, _ => exact hK.2 9 _ rfl
    | 13, _, h0 => exact absurd rfl h0
    | 14, _, _ => exact hK.2 10 _ rfl
    | 15, _, _ => exact hK.2 11 _ rfl
    | 16, _, _ => exact hK.2 12 _ rfl
    | 17, _, h0 => exact absurd rfl h0
    | 18, _, _ => exact hK.2 13 _ rfl
    | 19, _, _ => exact hK.2 14 _ rfl
    | 20, _, _ => exact hK.2 15 _ rfl
    | 21, _, h0 => exact absurd rfl h0
    | 22, _, _ => exact hK.2 16 _ rfl
    | 23, _, _ => exact hK.2 17 _ rfl
    | 24, _, _ => exact hK.2 18 _ rfl
    | 25, _, h0 => exact absurd rfl h0
    | 26, _, _ => exact hK.2 19 _ rfl
    | 27, _, _ => exact hK.2 20 _ rfl
    | 28, _, _ => exact hK.2 21 _ rfl
    | 29, _, _ => exact hK.2 22 _ rfl
    | 30, _, h0 => exact absurd rfl h0
    | 31, _, _ => exact hK.2 24 _ rfl
    | 32, _, _ => exact hK.2 23 _ rfl
    | 33, _, _ => exact hK.2 23 _ rfl
    | 34, _, _ => exact hK.2 23 _ rfl
    | 35, _, _ => exact hK.2 23 _ rfl
    | 36, _, _ => exact hK.2 23 _ rfl
    | 37, _, _ => exact hK.2 23 _ rfl
    | 38, _, _ => exact hK.2 25 _ rfl
    | 39, _, _ => exact hK.2 26 _ rfl
    | 40, _, _ => exact hK.2 27 _ rfl
    | 41, _, h0 => exact absurd rfl h0
    | 42, _, _ => exact hK.2 28 _ rfl
    | 43, _, _ => exact hK.2 29 _ rfl
    | 44, _, h0 => exact absurd rfl h0
    | 45, _, _ => exact hK.2 30 _ rfl
    | 46, _, _ => exact hK.2 31 _ rfl
    | 47, _, _ => exact hK.2 32 _ rfl
    | 48, _, _ => exact hK.2 33 _ rfl
    | 49, _, _ => exact hK.2 34 _ rfl
    | 50, _, _ => exact hK.2 35 _ rfl
    | 51, _, _ => exact hK.2 36 _ rfl
    | 52, _, _ => exact hK.2 37 _ rfl
    | 53, _, h0 => exact absurd rfl h0
    | 54, _, _ => exact hK.2 38 _ rfl
    | 55, _, _ => exact hK.2 39 _ rfl
    | 56, _, _ => exact hK.2 40 _ rfl
    | 57, _, _ => exact hK.2 41 _ rfl
    | 58, _, _ => exact hK.2 42 _ rfl
    | 59, _, _ => exact hK.2 43 _ rfl
    | 60, _, _ => exact hK.2 44 _ rfl
    | 61, _, _ => exact hK.2 45 _ rfl
    | 62, _, _ => exact hK.2 46 _ rfl
    | 63, _, _ => exact hK.2 47 _ rfl
    | 64, _, _ => exact hK.2 48 _ rfl
    | 65, _, _ => exact hK.2 49 _ rfl
    | 66, _, _ => exact hK.2 50 _ rfl
    | 67, _, _ => exact hK.2 51 _ rfl
    | 68, _, _ => exact hK.2 52 _ rfl
    | 69, _, _ => exact hK.2 53 _ rfl
    | 70, _, _ => exact hK.2 54 _ rfl
    | 71, _, _ => exact hK.2 55 _ rfl
    | 72, _, _ => exact hK.2 56 _ rfl
    | 73, _, _ => exact hK.2 57 _ rfl
    | 74, _, _ => exact hK.2 58 _ rfl
    | 75, _, _ => exact hK.2 59 _ rfl
    | 76, _, _ => exact hK.2 60 _ rfl
    | 77, _, _ => exact hK.2 61 _ rfl
    | 78, _, _ => exact hK.2 62 _ rfl
    | 79, _, _ => exact hK.2 63 _ rfl
    | 80, _, _ => exact hK.2 64 _ rfl
    | 81, _, _ => exact hK.2 65 _ rfl
    | 82, _, _ => exact hK.2 66 _ rfl
    | 83, _, _ => exact hK.2 67 _ rfl
    | 84, _, _ => exact hK.2 68 _ rfl
    | 85, _, _ => exact hK.2 69 _ rfl
    | k + 86, hk, _ => exact absurd hk (by omega)
  have e90 : ρ 90 = t90 := by rw [hρ]; rfl
  have e91 : ρ 91 = t91 := by rw [hρ]; rfl
  have e92 : ρ 92 = t92 := by rw [hρ]; rfl
  have e93 : ρ 93 = t93 := by rw [hρ]; rfl
  have e94 : ρ 94 = b := by rw [hρ]; rfl
  have e0 : ρ 0 = x0 := by rw [hρ]; rfl
  have e53 : ρ 53 = m0 := by rw [hρ]; rfl
  obtain ⟨z, hzz⟩ : ∃ z : Zx, z = (ρ, CA, (dC, dI), fun q : Nat => s.heap.size ≤ q) := ⟨_, rfl⟩
  have hZS : ZS z s s.heap := by
    subst hzz
    refine ⟨fun t h1 h2 => ?_, by show va_Z _ _ _ (.ref (ρ 90)) _ _ _; rw [e90]; exact hZ90, by show va_Z _ _ _ (.ref (ρ 91)) _ _ _; rw [e91]; exact hZ91, by show va_Z _ _ _ (.ref (ρ 92)) _ _ _; rw [e92]; exact hZ92, by show va_Z _ _ _ (.ref (ρ 93)) _ _ _; rw [e93]; exact hZ93⟩
    rcases (show t = 90 ∨ t = 91 ∨ t = 92 ∨ t = 93 by omega) with rfl | rfl | rfl | rfl
    · show va_T _ (ρ 90) _ _ _ _ _; rw [e90]; exact hT90
    · show va_T _ (ρ 91) _ _ _ _ _; rw [e91]; exact hT91
    · show va_T _ (ρ 92) _ _ _ _ _; rw [e92]; exact hT92
    · show va_T _ (ρ 93) _ _ _ _ _; rw [e93]; exact hT93
  have hG : Gx (p, l, e, room_1, s, m, #[Value.ref b], below, meth, c, z, (86, 3376, 4), lw_Z below #[Value.ref b] s) RL cL_law 4 1000 := ⟨hx, hb, hml, hown, hts, ⟨Nat.le_of_ble_eq_true rfl, Nat.le_of_ble_eq_true rfl⟩, ⟨Nat.le_of_ble_eq_true rfl, Nat.le_of_ble_eq_true rfl⟩, by subst hzz; exact ⟨hK.sub [] rfl, hZK⟩, hZS, by subst hzz; exact hZD, rfl⟩
  have hGs : Gs (p, l, e, room_1, s, m, #[Value.ref b], below, meth, c, z, (86, 3376, 4), lw_Z below #[Value.ref b] s) L xs := by
    subst hzz
    show va_X (ρ 94) L xs s s.heap ∧ ρ 94 < s.heap.size ∧ ¬ (s.heap.size ≤ ρ 94)
    rw [e94]
    exact ⟨hX, hbl, hbA⟩
  have hW := t_L_law hG hGs h00 1 (law_one L xs hL) ⟨rfl, rfl, hr, hlocks, ⟨b, rfl, rfl⟩, ⟨Nat.le_of_ble_eq_true rfl, Nat.le_of_ble_eq_true rfl⟩, by subst hzz; exact fun q h => h⟩
  refine hW H locs ls (by subst hzz; exact hZP) (by subst hzz; exact hS) ?_
  subst hzz
  show lv_has ls 4 [(0, .ref (ρ 94)), (1, .ref (ρ 0)), (2, .ref (ρ 53)), (3, .int 0)]
  rw [e94, e0, e53]
  exact lv_sub hl [3, 2, 1, 0] rfl
