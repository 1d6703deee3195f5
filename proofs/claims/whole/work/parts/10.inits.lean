def wsX0_init : List Cond := .code yX0_init cX0_init 1 none :: ([.methodLink RX0 1 objectInit, .instanceMethod objectInit, .code objectInit ⟨#[0xb1]⟩ 1 none, .arrayClass .long, .fieldLink RX0 9 "MailSieve$Greylist" "digests" "[J", .arrayClass .int, .fieldLink RX0 13 "MailSieve$Greylist" "firsts" "[I", .fieldLink RX0 17 "MailSieve$Greylist" "lasts" "[I", .arrayClass .boolean, .fieldLink RX0 20 "MailSieve$Greylist" "passed" "[Z", .fieldLink RX0 24 "MailSieve$Greylist" "networks" "[I"] ++ wsX00)
theorem dX0_init_0 : decode cX0_init 0 = .ok (.aload_n 0, 1) := by decide +kernel
theorem dX0_init_1 : decode cX0_init 1 = .ok (.invokespecial 1, 3) := by decide +kernel
theorem dX0_init_4 : decode cX0_init 4 = .ok (.aload_n 0, 1) := by decide +kernel
theorem dX0_init_5 : decode cX0_init 5 = .ok (.bipush 24, 2) := by decide +kernel
theorem dX0_init_7 : decode cX0_init 7 = .ok (.newarray .long, 2) := by decide +kernel
theorem dX0_init_9 : decode cX0_init 9 = .ok (.putfield 9, 3) := by decide +kernel
theorem dX0_init_12 : decode cX0_init 12 = .ok (.aload_n 0, 1) := by decide +kernel
theorem dX0_init_13 : decode cX0_init 13 = .ok (.bipush 24, 2) := by decide +kernel
theorem dX0_init_15 : decode cX0_init 15 = .ok (.newarray .int, 2) := by decide +kernel
theorem dX0_init_17 : decode cX0_init 17 = .ok (.putfield 13, 3) := by decide +kernel
theorem dX0_init_20 : decode cX0_init 20 = .ok (.aload_n 0, 1) := by decide +kernel
theorem dX0_init_21 : decode cX0_init 21 = .ok (.bipush 24, 2) := by decide +kernel
theorem dX0_init_23 : decode cX0_init 23 = .ok (.newarray .int, 2) := by decide +kernel
theorem dX0_init_25 : decode cX0_init 25 = .ok (.putfield 17, 3) := by decide +kernel
theorem dX0_init_28 : decode cX0_init 28 = .ok (.aload_n 0, 1) := by decide +kernel
theorem dX0_init_29 : decode cX0_init 29 = .ok (.bipush 24, 2) := by decide +kernel
theorem dX0_init_31 : decode cX0_init 31 = .ok (.newarray .boolean, 2) := by decide +kernel
theorem dX0_init_33 : decode cX0_init 33 = .ok (.putfield 20, 3) := by decide +kernel
theorem dX0_init_36 : decode cX0_init 36 = .ok (.aload_n 0, 1) := by decide +kernel
theorem dX0_init_37 : decode cX0_init 37 = .ok (.bipush 24, 2) := by decide +kernel
theorem dX0_init_39 : decode cX0_init 39 = .ok (.newarray .int, 2) := by decide +kernel
theorem dX0_init_41 : decode cX0_init 41 = .ok (.putfield 24, 3) := by decide +kernel
theorem dX0_init_44 : decode cX0_init 44 = .ok (.return_, 1) := by decide +kernel
/-- MailSieve$Greylist: its cells behind its constructor -/
def xi_X0 (cy : Nat → ClassId) (h : Nat) (u : Nat → Nat → Nat) : va_W := [(h, .inr (2, [.ref (u 0 0), .ref (u 0 1), .ref (u 0 2), .ref (u 0 3), .ref (u 0 4), .int 0])), ((u 0 0), .inl (cy 3, 24, .inr (.inl (fun _ => 0)))), ((u 0 1), .inl (cy 2, 24, .inl (fun _ => 0))), ((u 0 2), .inl (cy 2, 24, .inl (fun _ => 0))), ((u 0 3), .inl (cy 4, 24, .inl (fun _ => 0))), ((u 0 4), .inl (cy 2, 24, .inl (fun _ => 0)))]
set_option maxHeartbeats 4000000 in
set_option maxRecDepth 100000 in
theorem c_X0_init (l : Launch) (cy : Nat → ClassId) (D : va_G) (sz h0 : Nat) : Met l yX0_init wsX0_init { frames := 1, cells := 5, slots := 120, locals := 12 } (xPc cy D [.ref h0] [(h0, .inr (2, [.null, .null, .null, .null, .null, .int 0]))] sz) (va_Qv (fun _ : Nat → Nat → Nat => True) (xB D (xi_X0 cy h0) (va_A [(h0, .inr (2, [.null, .null, .null, .null, .null, .int 0]))] sz)) (va_A [(h0, .inr (2, [.null, .null, .null, .null, .null, .int 0]))] sz)) 5 120 (va_A [(h0, .inr (2, [.null, .null, .null, .null, .null, .int 0]))] sz) := by
  refine Met.ofW (cc := cX0_init) (maxL := 1) (ret := none) (by decide) rfl ?_
  intro p e s m args below meth c s₁ B hml hv
  obtain ⟨rfl, hsz, hP, hE, hD0⟩ := hv
  have hx := B.exec
  have hb := B.bytes
  have hr := B.returns
  have hts := atoms_spec (ws := wsX0_init) B.pre
  have hown : s.vm.findClass RX0 = some m.cls := findClass_of_methodNamed B.named
  have hlocks := B.notSynchronized
  have hin9 : meth.name = "<init>" := (name_of_methodNamed B.named B.method).1
  have hin_X0 : ∀ q ∈ u_ws RX0 TX0 6, q ∈ wsX0_init := (fun _ h => List.mem_cons_of_mem _ (List.mem_append_right _ h))
  subst hsz
  have hD := hD0.self (sz := s.heap.size)
  generalize hAe : va_A ([(h0, .inr (2, [.null, .null, .null, .null, .null, .int 0]))]) s.heap.size = A at hD ⊢
  have hA : ∀ q : Nat, s.heap.size ≤ q → A q := fun q h => by rw [← hAe]; exact Or.inr h
  have hS : va_S A s.heap s.heap [] := va_S.rf
  have hl := lv_entry ([.ref h0]) (n := 1) (Nat.le_of_ble_eq_true rfl)
  rw [lg_entry_eq]
  generalize (lg_sl ([.ref h0]) ++ List.replicate (1 - (lg_sl ([.ref h0])).length) Slot.unset).toArray = ls at hl ⊢
  have hl : lv_has ls 1 [(0, .ref h0)] := hl
  refine lv_aload_n hx hb dX0_init_0 rfl (lv_at hl 0 rfl) ?_
  refine W.objInit hx hb hown (hts (.methodLink RX0 1 objectInit) (List.mem_of_getElem? (i := 1) rfl)) (hts (.instanceMethod objectInit) (List.mem_of_getElem? (i := 2) rfl)) (hts _ (List.mem_of_getElem? (i := 3) rfl)) rfl (by rw [hml]; exact hl.1) rfl dX0_init_1 (Nat.le_of_ble_eq_true rfl) (Nat.le_of_ble_eq_true rfl) ?_
  refine W.eq (g2 := F0 m 4 ls []) rfl ?_
  refine lv_aload_n hx hb dX0_init_4 rfl (lv_at hl 0 rfl) ?_
  refine lv_bipush (v := 24) hx hb dX0_init_5 (by decide) ?_
  refine xa_newa (ty := .long) (cA := cy 3) (a0 := (24, .inr (.inl (fun _ => 0)))) hx hb (hts (.arrayClass .long) (List.mem_of_getElem? (i := 4) rfl)) rfl hE.1 3 rfl (fun _ h => h) hP hD hS hA (fun _ => rfl) (by decide) (by decide) (by decide) (Nat.le_of_ble_eq_true rfl) (Nat.le_of_ble_eq_true rfl) dX0_init_7 (fun q7 H hP hD hS => ?_)
  have hP : va_P D vwCl ([(h0, .inr (2, [.null, .null, .null, .null, .null, .int 0])), (q7, .inl (cy 3, 24, .inr (.inl (fun _ => 0))))]) H := hP
  have hD : va_D A ([(h0, .inr (2, [.null, .null, .null, .null, .null, .int 0])), (q7, .inl (cy 3, 24, .inr (.inl (fun _ => 0))))]) := hD
  refine W.widen (k := 1) (n := 24) (by omega) (by omega) ?_
  refine va_putF (D := D) (ci := 2) (v := .ref q7) (C := RX0) (T := TX0) (N := 6) hx hb hts hin_X0 tyX0 tyX0_ok nmX0 hown hE.1 hP hD hS 0 rfl rfl 0 (by decide) (hts (.fieldLink RX0 9 "MailSieve$Greylist" "digests" "[J") (List.mem_of_getElem? (i := 5) rfl)) (fun _ h9 => h9) rfl hin9 rfl (ty := tyX0 0) (by decide +kernel) rfl rfl (Nat.le_of_ble_eq_true rfl) dX0_init_9 (fun H locs hP hD hS => ?_)
  have hP : va_P D vwCl ([(h0, .inr (2, [.ref q7, .null, .null, .null, .null, .int 0])), (q7, .inl (cy 3, 24, .inr (.inl (fun _ => 0))))]) H := hP
  have hD : va_D A ([(h0, .inr (2, [.ref q7, .null, .null, .null, .null, .int 0])), (q7, .inl (cy 3, 24, .inr (.inl (fun _ => 0))))]) := hD
  refine lv_aload_n hx hb dX0_init_12 rfl (lv_at hl 0 rfl) ?_
  refine lv_bipush (v := 24) hx hb dX0_init_13 (by decide) ?_
  refine xa_newa (ty := .int) (cA := cy 2) (a0 := (24, .inl (fun _ => 0))) hx hb (hts (.arrayClass .int) (List.mem_of_getElem? (i := 6) rfl)) rfl hE.1 2 rfl (fun _ h => h) hP hD hS hA (fun _ => rfl) (by decide) (by decide) (by decide) (Nat.le_of_ble_eq_true rfl) (Nat.le_of_ble_eq_true rfl) dX0_init_15 (fun q15 H hP hD hS => ?_)
  have hP : va_P D vwCl ([(h0, .inr (2, [.ref q7, .null, .null, .null, .null, .int 0])), (q7, .inl (cy 3, 24, .inr (.inl (fun _ => 0)))), (q15, .inl (cy 2, 24, .inl (fun _ => 0)))]) H := hP
  have hD : va_D A ([(h0, .inr (2, [.ref q7, .null, .null, .null, .null, .int 0])), (q7, .inl (cy 3, 24, .inr (.inl (fun _ => 0)))), (q15, .inl (cy 2, 24, .inl (fun _ => 0)))]) := hD
  refine W.widen (k := 2) (n := 48) (by omega) (by omega) ?_
  refine va_putF (D := D) (ci := 2) (v := .ref q15) (C := RX0) (T := TX0) (N := 6) hx hb hts hin_X0 tyX0 tyX0_ok nmX0 hown hE.1 hP hD hS 0 rfl rfl 1 (by decide) (hts (.fieldLink RX0 13 "MailSieve$Greylist" "firsts" "[I") (List.mem_of_getElem? (i := 7) rfl)) (fun _ h9 => h9) rfl hin9 rfl (ty := tyX0 1) (by decide +kernel) rfl rfl (Nat.le_of_ble_eq_true rfl) dX0_init_17 (fun H locs hP hD hS => ?_)
  have hP : va_P D vwCl ([(h0, .inr (2, [.ref q7, .ref q15, .null, .null, .null, .int 0])), (q7, .inl (cy 3, 24, .inr (.inl (fun _ => 0)))), (q15, .inl (cy 2, 24, .inl (fun _ => 0)))]) H := hP
  have hD : va_D A ([(h0, .inr (2, [.ref q7, .ref q15, .null, .null, .null, .int 0])), (q7, .inl (cy 3, 24, .inr (.inl (fun _ => 0)))), (q15, .inl (cy 2, 24, .inl (fun _ => 0)))]) := hD
  refine lv_aload_n hx hb dX0_init_20 rfl (lv_at hl 0 rfl) ?_
  refine lv_bipush (v := 24) hx hb dX0_init_21 (by decide) ?_
  refine xa_newa (ty := .int) (cA := cy 2) (a0 := (24, .inl (fun _ => 0))) hx hb (hts (.arrayClass .int) (List.mem_of_getElem? (i := 6) rfl)) rfl hE.1 2 rfl (fun _ h => h) hP hD hS hA (fun _ => rfl) (by decide) (by decide) (by decide) (Nat.le_of_ble_eq_true rfl) (Nat.le_of_ble_eq_true rfl) dX0_init_23 (fun q23 H hP hD hS => ?_)
  have hP : va_P D vwCl ([(h0, .inr (2, [.ref q7, .ref q15, .null, .null, .null, .int 0])), (q7, .inl (cy 3, 24, .inr (.inl (fun _ => 0)))), (q15, .inl (cy 2, 24, .inl (fun _ => 0))), (q23, .inl (cy 2, 24, .inl (fun _ => 0)))]) H := hP
  have hD : va_D A ([(h0, .inr (2, [.ref q7, .ref q15, .null, .null, .null, .int 0])), (q7, .inl (cy 3, 24, .inr (.inl (fun _ => 0)))), (q15, .inl (cy 2, 24, .inl (fun _ => 0))), (q23, .inl (cy 2, 24, .inl (fun _ => 0)))]) := hD
  refine W.widen (k := 3) (n := 72) (by omega) (by omega) ?_
  refine va_putF (D := D) (ci := 2) (v := .ref q23) (C := RX0) (T := TX0) (N := 6) hx hb hts hin_X0 tyX0 tyX0_ok nmX0 hown hE.1 hP hD hS 0 rfl rfl 2 (by decide) (hts (.fieldLink RX0 17 "MailSieve$Greylist" "lasts" "[I") (List.mem_of_getElem? (i := 8) rfl)) (fun _ h9 => h9) rfl hin9 rfl (ty := tyX0 2) (by decide +kernel) rfl rfl (Nat.le_of_ble_eq_true rfl) dX0_init_25 (fun H locs hP hD hS => ?_)
  have hP : va_P D vwCl ([(h0, .inr (2, [.ref q7, .ref q15, .ref q23, .null, .null, .int 0])), (q7, .inl (cy 3, 24, .inr (.inl (fun _ => 0)))), (q15, .inl (cy 2, 24, .inl (fun _ => 0))), (q23, .inl (cy 2, 24, .inl (fun _ => 0)))]) H := hP
  have hD : va_D A ([(h0, .inr (2, [.ref q7, .ref q15, .ref q23, .null, .null, .int 0])), (q7, .inl (cy 3, 24, .inr (.inl (fun _ => 0)))), (q15, .inl (cy 2, 24, .inl (fun _ => 0))), (q23, .inl (cy 2, 24, .inl (fun _ => 0)))]) := hD
  refine lv_aload_n hx hb dX0_init_28 rfl (lv_at hl 0 rfl) ?_
  refine lv_bipush (v := 24) hx hb dX0_init_29 (by decide) ?_
  refine xa_newa (ty := .boolean) (cA := cy 4) (a0 := (24, .inl (fun _ => 0))) hx hb (hts (.arrayClass .boolean) (List.mem_of_getElem? (i := 9) rfl)) rfl hE.1 4 rfl (fun _ h => h) hP hD hS hA (fun _ => rfl) (by decide) (by decide) (by decide) (Nat.le_of_ble_eq_true rfl) (Nat.le_of_ble_eq_true rfl) dX0_init_31 (fun q31 H hP hD hS => ?_)
  have hP : va_P D vwCl ([(h0, .inr (2, [.ref q7, .ref q15, .ref q23, .null, .null, .int 0])), (q7, .inl (cy 3, 24, .inr (.inl (fun _ => 0)))), (q15, .inl (cy 2, 24, .inl (fun _ => 0))), (q23, .inl (cy 2, 24, .inl (fun _ => 0))), (q31, .inl (cy 4, 24, .inl (fun _ => 0)))]) H := hP
  have hD : va_D A ([(h0, .inr (2, [.ref q7, .ref q15, .ref q23, .null, .null, .int 0])), (q7, .inl (cy 3, 24, .inr (.inl (fun _ => 0)))), (q15, .inl (cy 2, 24, .inl (fun _ => 0))), (q23, .inl (cy 2, 24, .inl (fun _ => 0))), (q31, .inl (cy 4, 24, .inl (fun _ => 0)))]) := hD
  refine W.widen (k := 4) (n := 96) (by omega) (by omega) ?_
  refine va_putF (D := D) (ci := 2) (v := .ref q31) (C := RX0) (T := TX0) (N := 6) hx hb hts hin_X0 tyX0 tyX0_ok nmX0 hown hE.1 hP hD hS 0 rfl rfl 3 (by decide) (hts (.fieldLink RX0 20 "MailSieve$Greylist" "passed" "[Z") (List.mem_of_getElem? (i := 10) rfl)) (fun _ h9 => h9) rfl hin9 rfl (ty := tyX0 3) (by decide +kernel) rfl rfl (Nat.le_of_ble_eq_true rfl) dX0_init_33 (fun H locs hP hD hS => ?_)
  have hP : va_P D vwCl ([(h0, .inr (2, [.ref q7, .ref q15, .ref q23, .ref q31, .null, .int 0])), (q7, .inl (cy 3, 24, .inr (.inl (fun _ => 0)))), (q15, .inl (cy 2, 24, .inl (fun _ => 0))), (q23, .inl (cy 2, 24, .inl (fun _ => 0))), (q31, .inl (cy 4, 24, .inl (fun _ => 0)))]) H := hP
  have hD : va_D A ([(h0, .inr (2, [.ref q7, .ref q15, .ref q23, .ref q31, .null, .int 0])), (q7, .inl (cy 3, 24, .inr (.inl (fun _ => 0)))), (q15, .inl (cy 2, 24, .inl (fun _ => 0))), (q23, .inl (cy 2, 24, .inl (fun _ => 0))), (q31, .inl (cy 4, 24, .inl (fun _ => 0)))]) := hD
  refine lv_aload_n hx hb dX0_init_36 rfl (lv_at hl 0 rfl) ?_
  refine lv_bipush (v := 24) hx hb dX0_init_37 (by decide) ?_
  refine xa_newa (ty := .int) (cA := cy 2) (a0 := (24, .inl (fun _ => 0))) hx hb (hts (.arrayClass .int) (List.mem_of_getElem? (i := 6) rfl)) rfl hE.1 2 rfl (fun _ h => h) hP hD hS hA (fun _ => rfl) (by decide) (by decide) (by decide) (Nat.le_of_ble_eq_true rfl) (Nat.le_of_ble_eq_true rfl) dX0_init_39 (fun q39 H hP hD hS => ?_)
  have hP : va_P D vwCl ([(h0, .inr (2, [.ref q7, .ref q15, .ref q23, .ref q31, .null, .int 0])), (q7, .inl (cy 3, 24, .inr (.inl (fun _ => 0)))), (q15, .inl (cy 2, 24, .inl (fun _ => 0))), (q23, .inl (cy 2, 24, .inl (fun _ => 0))), (q31, .inl (cy 4, 24, .inl (fun _ => 0))), (q39, .inl (cy 2, 24, .inl (fun _ => 0)))]) H := hP
  have hD : va_D A ([(h0, .inr (2, [.ref q7, .ref q15, .ref q23, .ref q31, .null, .int 0])), (q7, .inl (cy 3, 24, .inr (.inl (fun _ => 0)))), (q15, .inl (cy 2, 24, .inl (fun _ => 0))), (q23, .inl (cy 2, 24, .inl (fun _ => 0))), (q31, .inl (cy 4, 24, .inl (fun _ => 0))), (q39, .inl (cy 2, 24, .inl (fun _ => 0)))]) := hD
  refine W.widen (k := 5) (n := 120) (by omega) (by omega) ?_
  refine va_putF (D := D) (ci := 2) (v := .ref q39) (C := RX0) (T := TX0) (N := 6) hx hb hts hin_X0 tyX0 tyX0_ok nmX0 hown hE.1 hP hD hS 0 rfl rfl 4 (by decide) (hts (.fieldLink RX0 24 "MailSieve$Greylist" "networks" "[I") (List.mem_of_getElem? (i := 11) rfl)) (fun _ h9 => h9) rfl hin9 rfl (ty := tyX0 4) (by decide +kernel) rfl rfl (Nat.le_of_ble_eq_true rfl) dX0_init_41 (fun H locs hP hD hS => ?_)
  have hP : va_P D vwCl ([(h0, .inr (2, [.ref q7, .ref q15, .ref q23, .ref q31, .ref q39, .int 0])), (q7, .inl (cy 3, 24, .inr (.inl (fun _ => 0)))), (q15, .inl (cy 2, 24, .inl (fun _ => 0))), (q23, .inl (cy 2, 24, .inl (fun _ => 0))), (q31, .inl (cy 4, 24, .inl (fun _ => 0))), (q39, .inl (cy 2, 24, .inl (fun _ => 0)))]) H := hP
  have hD : va_D A ([(h0, .inr (2, [.ref q7, .ref q15, .ref q23, .ref q31, .ref q39, .int 0])), (q7, .inl (cy 3, 24, .inr (.inl (fun _ => 0)))), (q15, .inl (cy 2, 24, .inl (fun _ => 0))), (q23, .inl (cy 2, 24, .inl (fun _ => 0))), (q31, .inl (cy 4, 24, .inl (fun _ => 0))), (q39, .inl (cy 2, 24, .inl (fun _ => 0)))]) := hD
  exact xr_v (fun i => match i with | 0 => (fun k => match k with | 0 => q7 | 1 => q15 | 2 => q23 | 3 => q31 | 4 => q39 | _ => 0) | _ => (fun _ => 0)) hx hb hr hlocks trivial hP hD hS dX0_init_44
def wsX10_init : List Cond := .code yX10_init cX10_init 1 none :: ([.methodLink RX10 1 objectInit, .instanceMethod objectInit, .code objectInit ⟨#[0xb1]⟩ 1 none, .arrayClass .long, .fieldLink RX10 9 "MailSieve$Store" "digests" "[J", .arrayClass .int, .fieldLink RX10 13 "MailSieve$Store" "spams" "[I", .fieldLink RX10 17 "MailSieve$Store" "hams" "[I", .fieldLink RX10 20 "MailSieve$Store" "lasts" "[I", .arrayClass .byte, .fieldLink RX10 23 "MailSieve$Store" "journal" "[B", .arrayClass .double, .fieldLink RX10 27 "MailSieve$Store" "strengths" "[D", .fieldLink RX10 31 "MailSieve$Store" "picked" "[D"] ++ wsX100)
theorem dX10_init_0 : decode cX10_init 0 = .ok (.aload_n 0, 1) := by decide +kernel
theorem dX10_init_1 : decode cX10_init 1 = .ok (.invokespecial 1, 3) := by decide +kernel
theorem dX10_init_4 : decode cX10_init 4 = .ok (.aload_n 0, 1) := by decide +kernel
theorem dX10_init_5 : decode cX10_init 5 = .ok (.sipush 200, 3) := by decide +kernel
theorem dX10_init_8 : decode cX10_init 8 = .ok (.newarray .long, 2) := by decide +kernel
theorem dX10_init_10 : decode cX10_init 10 = .ok (.putfield 9, 3) := by decide +kernel
theorem dX10_init_13 : decode cX10_init 13 = .ok (.aload_n 0, 1) := by decide +kernel
theorem dX10_init_14 : decode cX10_init 14 = .ok (.sipush 200, 3) := by decide +kernel
theorem dX10_init_17 : decode cX10_init 17 = .ok (.newarray .int, 2) := by decide +kernel
theorem dX10_init_19 : decode cX10_init 19 = .ok (.putfield 13, 3) := by decide +kernel
theorem dX10_init_22 : decode cX10_init 22 = .ok (.aload_n 0, 1) := by decide +kernel
theorem dX10_init_23 : decode cX10_init 23 = .ok (.sipush 200, 3) := by decide +kernel
theorem dX10_init_26 : decode cX10_init 26 = .ok (.newarray .int, 2) := by decide +kernel
theorem dX10_init_28 : decode cX10_init 28 = .ok (.putfield 17, 3) := by decide +kernel
theorem dX10_init_31 : decode cX10_init 31 = .ok (.aload_n 0, 1) := by decide +kernel
theorem dX10_init_32 : decode cX10_init 32 = .ok (.sipush 200, 3) := by decide +kernel
theorem dX10_init_35 : decode cX10_init 35 = .ok (.newarray .int, 2) := by decide +kernel
theorem dX10_init_37 : decode cX10_init 37 = .ok (.putfield 20, 3) := by decide +kernel
theorem dX10_init_40 : decode cX10_init 40 = .ok (.aload_n 0, 1) := by decide +kernel
theorem dX10_init_41 : decode cX10_init 41 = .ok (.sipush 12000, 3) := by decide +kernel
theorem dX10_init_44 : decode cX10_init 44 = .ok (.newarray .byte, 2) := by decide +kernel
theorem dX10_init_46 : decode cX10_init 46 = .ok (.putfield 23, 3) := by decide +kernel
theorem dX10_init_49 : decode cX10_init 49 = .ok (.aload_n 0, 1) := by decide +kernel
theorem dX10_init_50 : decode cX10_init 50 = .ok (.bipush 15, 2) := by decide +kernel
theorem dX10_init_52 : decode cX10_init 52 = .ok (.newarray .double, 2) := by decide +kernel
theorem dX10_init_54 : decode cX10_init 54 = .ok (.putfield 27, 3) := by decide +kernel
theorem dX10_init_57 : decode cX10_init 57 = .ok (.aload_n 0, 1) := by decide +kernel
theorem dX10_init_58 : decode cX10_init 58 = .ok (.bipush 15, 2) := by decide +kernel
theorem dX10_init_60 : decode cX10_init 60 = .ok (.newarray .double, 2) := by decide +kernel
theorem dX10_init_62 : decode cX10_init 62 = .ok (.putfield 31, 3) := by decide +kernel
theorem dX10_init_65 : decode cX10_init 65 = .ok (.return_, 1) := by decide +kernel
/-- MailSieve$Store: its cells behind its constructor -/
def xi_X10 (cy : Nat → ClassId) (h : Nat) (u : Nat → Nat → Nat) : va_W := [(h, .inr (12, [.ref (u 0 0), .ref (u 0 1), .ref (u 0 2), .ref (u 0 3), .int 0, .int 0, .int 0, .ref (u 0 4), .int 0, .int 0, .ref (u 0 5), .ref (u 0 6)])), ((u 0 0), .inl (cy 3, 200, .inr (.inl (fun _ => 0)))), ((u 0 1), .inl (cy 2, 200, .inl (fun _ => 0))), ((u 0 2), .inl (cy 2, 200, .inl (fun _ => 0))), ((u 0 3), .inl (cy 2, 200, .inl (fun _ => 0))), ((u 0 4), .inl (cy 0, 12000, .inl (fun _ => 0))), ((u 0 5), .inl (cy 1, 15, .inr (.inr (.inr (.inl (fun _ => 0)))))), ((u 0 6), .inl (cy 1, 15, .inr (.inr (.inr (.inl (fun _ => 0))))))]
set_option maxHeartbeats 4000000 in
set_option maxRecDepth 100000 in
theorem c_X10_init (l : Launch) (cy : Nat → ClassId) (D : va_G) (sz h0 : Nat) : Met l yX10_init wsX10_init { frames := 1, cells := 7, slots := 12830, locals := 12 } (xPc cy D [.ref h0] [(h0, .inr (12, [.null, .null, .null, .null, .int 0, .int 0, .int 0, .null, .int 0, .int 0, .null, .null]))] sz) (va_Qv (fun _ : Nat → Nat → Nat => True) (xB D (xi_X10 cy h0) (va_A [(h0, .inr (12, [.null, .null, .null, .null, .int 0, .int 0, .int 0, .null, .int 0, .int 0, .null, .null]))] sz)) (va_A [(h0, .inr (12, [.null, .null, .null, .null, .int 0, .int 0, .int 0, .null, .int 0, .int 0, .null, .null]))] sz)) 7 12830 (va_A [(h0, .inr (12, [.null, .null, .null, .null, .int 0, .int 0, .int 0, .null, .int 0, .int 0, .null, .null]))] sz) := by
  refine Met.ofW (cc := cX10_init) (maxL := 1) (ret := none) (by decide) rfl ?_
  intro p e s m args below meth c s₁ B hml hv
  obtain ⟨rfl, hsz, hP, hE, hD0⟩ := hv
  have hx := B.exec
  have hb := B.bytes
  have hr := B.returns
  have hts := atoms_spec (ws := wsX10_init) B.pre
  have hown : s.vm.findClass RX10 = some m.cls := findClass_of_methodNamed B.named
  have hlocks := B.notSynchronized
  have hin9 : meth.name = "<init>" := (name_of_methodNamed B.named B.method).1
  have hin_X10 : ∀ q ∈ u_ws RX10 TX10 12, q ∈ wsX10_init := (fun _ h => List.mem_cons_of_mem _ (List.mem_append_right _ h))
  subst hsz
  have hD := hD0.self (sz := s.heap.size)
  generalize hAe : va_A ([(h0, .inr (12, [.null, .null, .null, .null, .int 0, .int 0, .int 0, .null, .int 0, .int 0, .null, .null]))]) s.heap.size = A at hD ⊢
  have hA : ∀ q : Nat, s.heap.size ≤ q → A q := fun q h => by rw [← hAe]; exact Or.inr h
  have hS : va_S A s.heap s.heap [] := va_S.rf
  have hl := lv_entry ([.ref h0]) (n := 1) (Nat.le_of_ble_eq_true rfl)
  rw [lg_entry_eq]
  generalize (lg_sl ([.ref h0]) ++ List.replicate (1 - (lg_sl ([.ref h0])).length) Slot.unset).toArray = ls at hl ⊢
  have hl : lv_has ls 1 [(0, .ref h0)] := hl
  refine lv_aload_n hx hb dX10_init_0 rfl (lv_at hl 0 rfl) ?_
  refine W.objInit hx hb hown (hts (.methodLink RX10 1 objectInit) (List.mem_of_getElem? (i := 1) rfl)) (hts (.instanceMethod objectInit) (List.mem_of_getElem? (i := 2) rfl)) (hts _ (List.mem_of_getElem? (i := 3) rfl)) rfl (by rw [hml]; exact hl.1) rfl dX10_init_1 (Nat.le_of_ble_eq_true rfl) (Nat.le_of_ble_eq_true rfl) ?_
  refine W.eq (g2 := F0 m 4 ls []) rfl ?_
  refine lv_aload_n hx hb dX10_init_4 rfl (lv_at hl 0 rfl) ?_
  refine lv_sipush (v := 200) hx hb dX10_init_5 (by decide) ?_
  refine xa_newa (ty := .long) (cA := cy 3) (a0 := (200, .inr (.inl (fun _ => 0)))) hx hb (hts (.arrayClass .long) (List.mem_of_getElem? (i := 4) rfl)) rfl hE.1 3 rfl (fun _ h => h) hP hD hS hA (fun _ => rfl) (by decide) (by decide) (by decide) (Nat.le_of_ble_eq_true rfl) (Nat.le_of_ble_eq_true rfl) dX10_init_8 (fun q8 H hP hD hS => ?_)
  have hP : va_P D vwCl ([(h0, .inr (12, [.null, .null, .null, .null, .int 0, .int 0, .int 0, .null, .int 0, .int 0, .null, .null])), (q8, .inl (cy 3, 200, .inr (.inl (fun _ => 0))))]) H := hP
  have hD : va_D A ([(h0, .inr (12, [.null, .null, .null, .null, .int 0, .int 0, .int 0, .null, .int 0, .int 0, .null, .null])), (q8, .inl (cy 3, 200, .inr (.inl (fun _ => 0))))]) := hD
  refine W.widen (k := 1) (n := 200) (by omega) (by omega) ?_
  refine va_putF (D := D) (ci := 12) (v := .ref q8) (C := RX10) (T := TX10) (N := 12) hx hb hts hin_X10 tyX10 tyX10_ok nmX10 hown hE.1 hP hD hS 0 rfl rfl 0 (by decide) (hts (.fieldLink RX10 9 "MailSieve$Store" "digests" "[J") (List.mem_of_getElem? (i := 5) rfl)) (fun _ h9 => h9) rfl hin9 rfl (ty := tyX10 0) (by decide +kernel) rfl rfl (Nat.le_of_ble_eq_true rfl) dX10_init_10 (fun H locs hP hD hS => ?_)
  have hP : va_P D vwCl ([(h0, .inr (12, [.ref q8, .null, .null, .null, .int 0, .int 0, .int 0, .null, .int 0, .int 0, .null, .null])), (q8, .inl (cy 3, 200, .inr (.inl (fun _ => 0))))]) H := hP
  have hD : va_D A ([(h0, .inr (12, [.ref q8, .null, .null, .null, .int 0, .int 0, .int 0, .null, .int 0, .int 0, .null, .null])), (q8, .inl (cy 3, 200, .inr (.inl (fun _ => 0))))]) := hD
  refine lv_aload_n hx hb dX10_init_13 rfl (lv_at hl 0 rfl) ?_
  refine lv_sipush (v := 200) hx hb dX10_init_14 (by decide) ?_
  refine xa_newa (ty := .int) (cA := cy 2) (a0 := (200, .inl (fun _ => 0))) hx hb (hts (.arrayClass .int) (List.mem_of_getElem? (i := 6) rfl)) rfl hE.1 2 rfl (fun _ h => h) hP hD hS hA (fun _ => rfl) (by decide) (by decide) (by decide) (Nat.le_of_ble_eq_true rfl) (Nat.le_of_ble_eq_true rfl) dX10_init_17 (fun q17 H hP hD hS => ?_)
  have hP : va_P D vwCl ([(h0, .inr (12, [.ref q8, .null, .null, .null, .int 0, .int 0, .int 0, .null, .int 0, .int 0, .null, .null])), (q8, .inl (cy 3, 200, .inr (.inl (fun _ => 0)))), (q17, .inl (cy 2, 200, .inl (fun _ => 0)))]) H := hP
  have hD : va_D A ([(h0, .inr (12, [.ref q8, .null, .null, .null, .int 0, .int 0, .int 0, .null, .int 0, .int 0, .null, .null])), (q8, .inl (cy 3, 200, .inr (.inl (fun _ => 0)))), (q17, .inl (cy 2, 200, .inl (fun _ => 0)))]) := hD
  refine W.widen (k := 2) (n := 400) (by omega) (by omega) ?_
  refine va_putF (D := D) (ci := 12) (v := .ref q17) (C := RX10) (T := TX10) (N := 12) hx hb hts hin_X10 tyX10 tyX10_ok nmX10 hown hE.1 hP hD hS 0 rfl rfl 1 (by decide) (hts (.fieldLink RX10 13 "MailSieve$Store" "spams" "[I") (List.mem_of_getElem? (i := 7) rfl)) (fun _ h9 => h9) rfl hin9 rfl (ty := tyX10 1) (by decide +kernel) rfl rfl (Nat.le_of_ble_eq_true rfl) dX10_init_19 (fun H locs hP hD hS => ?_)
  have hP : va_P D vwCl ([(h0, .inr (12, [.ref q8, .ref q17, .null, .null, .int 0, .int 0, .int 0, .null, .int 0, .int 0, .null, .null])), (q8, .inl (cy 3, 200, .inr (.inl (fun _ => 0)))), (q17, .inl (cy 2, 200, .inl (fun _ => 0)))]) H := hP
  have hD : va_D A ([(h0, .inr (12, [.ref q8, .ref q17, .null, .null, .int 0, .int 0, .int 0, .null, .int 0, .int 0, .null, .null])), (q8, .inl (cy 3, 200, .inr (.inl (fun _ => 0)))), (q17, .inl (cy 2, 200, .inl (fun _ => 0)))]) := hD
  refine lv_aload_n hx hb dX10_init_22 rfl (lv_at hl 0 rfl) ?_
  refine lv_sipush (v := 200) hx hb dX10_init_23 (by decide) ?_
  refine xa_newa (ty := .int) (cA := cy 2) (a0 := (200, .inl (fun _ => 0))) hx hb (hts (.arrayClass .int) (List.mem_of_getElem? (i := 6) rfl)) rfl hE.1 2 rfl (fun _ h => h) hP hD hS hA (fun _ => rfl) (by decide) (by decide) (by decide) (Nat.le_of_ble_eq_true rfl) (Nat.le_of_ble_eq_true rfl) dX10_init_26 (fun q26 H hP hD hS => ?_)
  have hP : va_P D vwCl ([(h0, .inr (12, [.ref q8, .ref q17, .null, .null, .int 0, .int 0, .int 0, .null, .int 0, .int 0, .null, .null])), (q8, .inl (cy 3, 200, .inr (.inl (fun _ => 0)))), (q17, .inl (cy 2, 200, .inl (fun _ => 0))), (q26, .inl (cy 2, 200, .inl (fun _ => 0)))]) H := hP
  have hD : va_D A ([(h0, .inr (12, [.ref q8, .ref q17, .null, .null, .int 0, .int 0, .int 0, .null, .int 0, .int 0, .null, .null])), (q8, .inl (cy 3, 200, .inr (.inl (fun _ => 0)))), (q17, .inl (cy 2, 200, .inl (fun _ => 0))), (q26, .inl (cy 2, 200, .inl (fun _ => 0)))]) := hD
  refine W.widen (k := 3) (n := 600) (by omega) (by omega) ?_
  refine va_putF (D := D) (ci := 12) (v := .ref q26) (C := RX10) (T := TX10) (N := 12) hx hb hts hin_X10 tyX10 tyX10_ok nmX10 hown hE.1 hP hD hS 0 rfl rfl 2 (by decide) (hts (.fieldLink RX10 17 "MailSieve$Store" "hams" "[I") (List.mem_of_getElem? (i := 8) rfl)) (fun _ h9 => h9) rfl hin9 rfl (ty := tyX10 2) (by decide +kernel) rfl rfl (Nat.le_of_ble_eq_true rfl) dX10_init_28 (fun H locs hP hD hS => ?_)
  have hP : va_P D vwCl ([(h0, .inr (12, [.ref q8, .ref q17, .ref q26, .null, .int 0, .int 0, .int 0, .null, .int 0, .int 0, .null, .null])), (q8, .inl (cy 3, 200, .inr (.inl (fun _ => 0)))), (q17, .inl (cy 2, 200, .inl (fun _ => 0))), (q26, .inl (cy 2, 200, .inl (fun _ => 0)))]) H := hP
  have hD : va_D A ([(h0, .inr (12, [.ref q8, .ref q17, .ref q26, .null, .int 0, .int 0, .int 0, .null, .int 0, .int 0, .null, .null])), (q8, .inl (cy 3, 200, .inr (.inl (fun _ => 0)))), (q17, .inl (cy 2, 200, .inl (fun _ => 0))), (q26, .inl (cy 2, 200, .inl (fun _ => 0)))]) := hD
  refine lv_aload_n hx hb dX10_init_31 rfl (lv_at hl 0 rfl) ?_
  refine lv_sipush (v := 200) hx hb dX10_init_32 (by decide) ?_
  refine xa_newa (ty := .int) (cA := cy 2) (a0 := (200, .inl (fun _ => 0))) hx hb (hts (.arrayClass .int) (List.mem_of_getElem? (i := 6) rfl)) rfl hE.1 2 rfl (fun _ h => h) hP hD hS hA (fun _ => rfl) (by decide) (by decide) (by decide) (Nat.le_of_ble_eq_true rfl) (Nat.le_of_ble_eq_true rfl) dX10_init_35 (fun q35 H hP hD hS => ?_)
  have hP : va_P D vwCl ([(h0, .inr (12, [.ref q8, .ref q17, .ref q26, .null, .int 0, .int 0, .int 0, .null, .int 0, .int 0, .null, .null])), (q8, .inl (cy 3, 200, .inr (.inl (fun _ => 0)))), (q17, .inl (cy 2, 200, .inl (fun _ => 0))), (q26, .inl (cy 2, 200, .inl (fun _ => 0))), (q35, .inl (cy 2, 200, .inl (fun _ => 0)))]) H := hP
  have hD : va_D A ([(h0, .inr (12, [.ref q8, .ref q17, .ref q26, .null, .int 0, .int 0, .int 0, .null, .int 0, .int 0, .null, .null])), (q8, .inl (cy 3, 200, .inr (.inl (fun _ => 0)))), (q17, .inl (cy 2, 200, .inl (fun _ => 0))), (q26, .inl (cy 2, 200, .inl (fun _ => 0))), (q35, .inl (cy 2, 200, .inl (fun _ => 0)))]) := hD
  refine W.widen (k := 4) (n := 800) (by omega) (by omega) ?_
  refine va_putF (D := D) (ci := 12) (v := .ref q35) (C := RX10) (T := TX10) (N := 12) hx hb hts hin_X10 tyX10 tyX10_ok nmX10 hown hE.1 hP hD hS 0 rfl rfl 3 (by decide) (hts (.fieldLink RX10 20 "MailSieve$Store" "lasts" "[I") (List.mem_of_getElem? (i := 9) rfl)) (fun _ h9 => h9) rfl hin9 rfl (ty := tyX10 3) (by decide +kernel) rfl rfl (Nat.le_of_ble_eq_true rfl) dX10_init_37 (fun H locs hP hD hS => ?_)
  have hP : va_P D vwCl ([(h0, .inr (12, [.ref q8, .ref q17, .ref q26, .ref q35, .int 0, .int 0, .int 0, .null, .int 0, .int 0, .null, .null])), (q8, .inl (cy 3, 200, .inr (.inl (fun _ => 0)))), (q17, .inl (cy 2, 200, .inl (fun _ => 0))), (q26, .inl (cy 2, 200, .inl (fun _ => 0))), (q35, .inl (cy 2, 200, .inl (fun _ => 0)))]) H := hP
  have hD : va_D A ([(h0, .inr (12, [.ref q8, .ref q17, .ref q26, .ref q35, .int 0, .int 0, .int 0, .null, .int 0, .int 0, .null, .null])), (q8, .inl (cy 3, 200, .inr (.inl (fun _ => 0)))), (q17, .inl (cy 2, 200, .inl (fun _ => 0))), (q26, .inl (cy 2, 200, .inl (fun _ => 0))), (q35, .inl (cy 2, 200, .inl (fun _ => 0)))]) := hD
  refine lv_aload_n hx hb dX10_init_40 rfl (lv_at hl 0 rfl) ?_
  refine lv_sipush (v := 12000) hx hb dX10_init_41 (by decide) ?_
  refine xa_newa (ty := .byte) (cA := cy 0) (a0 := (12000, .inl (fun _ => 0))) hx hb (hts (.arrayClass .byte) (List.mem_of_getElem? (i := 10) rfl)) rfl hE.1 0 rfl (fun _ h => h) hP hD hS hA (fun _ => rfl) (by decide) (by decide) (by decide) (Nat.le_of_ble_eq_true rfl) (Nat.le_of_ble_eq_true rfl) dX10_init_44 (fun q44 H hP hD hS => ?_)
  have hP : va_P D vwCl ([(h0, .inr (12, [.ref q8, .ref q17, .ref q26, .ref q35, .int 0, .int 0, .int 0, .null, .int 0, .int 0, .null, .null])), (q8, .inl (cy 3, 200, .inr (.inl (fun _ => 0)))), (q17, .inl (cy 2, 200, .inl (fun _ => 0))), (q26, .inl (cy 2, 200, .inl (fun _ => 0))), (q35, .inl (cy 2, 200, .inl (fun _ => 0))), (q44, .inl (cy 0, 12000, .inl (fun _ => 0)))]) H := hP
  have hD : va_D A ([(h0, .inr (12, [.ref q8, .ref q17, .ref q26, .ref q35, .int 0, .int 0, .int 0, .null, .int 0, .int 0, .null, .null])), (q8, .inl (cy 3, 200, .inr (.inl (fun _ => 0)))), (q17, .inl (cy 2, 200, .inl (fun _ => 0))), (q26, .inl (cy 2, 200, .inl (fun _ => 0))), (q35, .inl (cy 2, 200, .inl (fun _ => 0))), (q44, .inl (cy 0, 12000, .inl (fun _ => 0)))]) := hD
  refine W.widen (k := 5) (n := 12800) (by omega) (by omega) ?_
  refine va_putF (D := D) (ci := 12) (v := .ref q44) (C := RX10) (T := TX10) (N := 12) hx hb hts hin_X10 tyX10 tyX10_ok nmX10 hown hE.1 hP hD hS 0 rfl rfl 7 (by decide) (hts (.fieldLink RX10 23 "MailSieve$Store" "journal" "[B") (List.mem_of_getElem? (i := 11) rfl)) (fun _ h9 => h9) rfl hin9 rfl (ty := tyX10 7) (by decide +kernel) rfl rfl (Nat.le_of_ble_eq_true rfl) dX10_init_46 (fun H locs hP hD hS => ?_)
  have hP : va_P D vwCl ([(h0, .inr (12, [.ref q8, .ref q17, .ref q26, .ref q35, .int 0, .int 0, .int 0, .ref q44, .int 0, .int 0, .null, .null])), (q8, .inl (cy 3, 200, .inr (.inl (fun _ => 0)))), (q17, .inl (cy 2, 200, .inl (fun _ => 0))), (q26, .inl (cy 2, 200, .inl (fun _ => 0))), (q35, .inl (cy 2, 200, .inl (fun _ => 0))), (q44, .inl (cy 0, 12000, .inl (fun _ => 0)))]) H := hP
  have hD : va_D A ([(h0, .inr (12, [.ref q8, .ref q17, .ref q26, .ref q35, .int 0, .int 0, .int 0, .ref q44, .int 0, .int 0, .null, .null])), (q8, .inl (cy 3, 200, .inr (.inl (fun _ => 0)))), (q17, .inl (cy 2, 200, .inl (fun _ => 0))), (q26, .inl (cy 2, 200, .inl (fun _ => 0))), (q35, .inl (cy 2, 200, .inl (fun _ => 0))), (q44, .inl (cy 0, 12000, .inl (fun _ => 0)))]) := hD
  refine lv_aload_n hx hb dX10_init_49 rfl (lv_at hl 0 rfl) ?_
  refine lv_bipush (v := 15) hx hb dX10_init_50 (by decide) ?_
  refine xa_newa (ty := .double) (cA := cy 1) (a0 := (15, .inr (.inr (.inr (.inl (fun _ => 0)))))) hx hb (hts (.arrayClass .double) (List.mem_of_getElem? (i := 12) rfl)) rfl hE.1 1 rfl (fun _ h => h) hP hD hS hA (fun _ => rfl) (by decide) (by decide) (by decide) (Nat.le_of_ble_eq_true rfl) (Nat.le_of_ble_eq_true rfl) dX10_init_52 (fun q52 H hP hD hS => ?_)
  have hP : va_P D vwCl ([(h0, .inr (12, [.ref q8, .ref q17, .ref q26, .ref q35, .int 0, .int 0, .int 0, .ref q44, .int 0, .int 0, .null, .null])), (q8, .inl (cy 3, 200, .inr (.inl (fun _ => 0)))), (q17, .inl (cy 2, 200, .inl (fun _ => 0))), (q26, .inl (cy 2, 200, .inl (fun _ => 0))), (q35, .inl (cy 2, 200, .inl (fun _ => 0))), (q44, .inl (cy 0, 12000, .inl (fun _ => 0))), (q52, .inl (cy 1, 15, .inr (.inr (.inr (.inl (fun _ => 0))))))]) H := hP
  have hD : va_D A ([(h0, .inr (12, [.ref q8, .ref q17, .ref q26, .ref q35, .int 0, .int 0, .int 0, .ref q44, .int 0, .int 0, .null, .null])), (q8, .inl (cy 3, 200, .inr (.inl (fun _ => 0)))), (q17, .inl (cy 2, 200, .inl (fun _ => 0))), (q26, .inl (cy 2, 200, .inl (fun _ => 0))), (q35, .inl (cy 2, 200, .inl (fun _ => 0))), (q44, .inl (cy 0, 12000, .inl (fun _ => 0))), (q52, .inl (cy 1, 15, .inr (.inr (.inr (.inl (fun _ => 0))))))]) := hD
  refine W.widen (k := 6) (n := 12815) (by omega) (by omega) ?_
  refine va_putF (D := D) (ci := 12) (v := .ref q52) (C := RX10) (T := TX10) (N := 12) hx hb hts hin_X10 tyX10 tyX10_ok nmX10 hown hE.1 hP hD hS 0 rfl rfl 10 (by decide) (hts (.fieldLink RX10 27 "MailSieve$Store" "strengths" "[D") (List.mem_of_getElem? (i := 13) rfl)) (fun _ h9 => h9) rfl hin9 rfl (ty := tyX10 10) (by decide +kernel) rfl rfl (Nat.le_of_ble_eq_true rfl) dX10_init_54 (fun H locs hP hD hS => ?_)
  have hP : va_P D vwCl ([(h0, .inr (12, [.ref q8, .ref q17, .ref q26, .ref q35, .int 0, .int 0, .int 0, .ref q44, .int 0, .int 0, .ref q52, .null])), (q8, .inl (cy 3, 200, .inr (.inl (fun _ => 0)))), (q17, .inl (cy 2, 200, .inl (fun _ => 0))), (q26, .inl (cy 2, 200, .inl (fun _ => 0))), (q35, .inl (cy 2, 200, .inl (fun _ => 0))), (q44, .inl (cy 0, 12000, .inl (fun _ => 0))), (q52, .inl (cy 1, 15, .inr (.inr (.inr (.inl (fun _ => 0))))))]) H := hP
  have hD : va_D A ([(h0, .inr (12, [.ref q8, .ref q17, .ref q26, .ref q35, .int 0, .int 0, .int 0, .ref q44, .int 0, .int 0, .ref q52, .null])), (q8, .inl (cy 3, 200, .inr (.inl (fun _ => 0)))), (q17, .inl (cy 2, 200, .inl (fun _ => 0))), (q26, .inl (cy 2, 200, .inl (fun _ => 0))), (q35, .inl (cy 2, 200, .inl (fun _ => 0))), (q44, .inl (cy 0, 12000, .inl (fun _ => 0))), (q52, .inl (cy 1, 15, .inr (.inr (.inr (.inl (fun _ => 0))))))]) := hD
  refine lv_aload_n hx hb dX10_init_57 rfl (lv_at hl 0 rfl) ?_
  refine lv_bipush (v := 15) hx hb dX10_init_58 (by decide) ?_
  refine xa_newa (ty := .double) (cA := cy 1) (a0 := (15, .inr (.inr (.inr (.inl (fun _ => 0)))))) hx hb (hts (.arrayClass .double) (List.mem_of_getElem? (i := 12) rfl)) rfl hE.1 1 rfl (fun _ h => h) hP hD hS hA (fun _ => rfl) (by decide) (by decide) (by decide) (Nat.le_of_ble_eq_true rfl) (Nat.le_of_ble_eq_true rfl) dX10_init_60 (fun q60 H hP hD hS => ?_)
  have hP : va_P D vwCl ([(h0, .inr (12, [.ref q8, .ref q17, .ref q26, .ref q35, .int 0, .int 0, .int 0, .ref q44, .int 0, .int 0, .ref q52, .null])), (q8, .inl (cy 3, 200, .inr (.inl (fun _ => 0)))), (q17, .inl (cy 2, 200, .inl (fun _ => 0))), (q26, .inl (cy 2, 200, .inl (fun _ => 0))), (q35, .inl (cy 2, 200, .inl (fun _ => 0))), (q44, .inl (cy 0, 12000, .inl (fun _ => 0))), (q52, .inl (cy 1, 15, .inr (.inr (.inr (.inl (fun _ => 0)))))), (q60, .inl (cy 1, 15, .inr (.inr (.inr (.inl (fun _ => 0))))))]) H := hP
  have hD : va_D A ([(h0, .inr (12, [.ref q8, .ref q17, .ref q26, .ref q35, .int 0, .int 0, .int 0, .ref q44, .int 0, .int 0, .ref q52, .null])), (q8, .inl (cy 3, 200, .inr (.inl (fun _ => 0)))), (q17, .inl (cy 2, 200, .inl (fun _ => 0))), (q26, .inl (cy 2, 200, .inl (fun _ => 0))), (q35, .inl (cy 2, 200, .inl (fun _ => 0))), (q44, .inl (cy 0, 12000, .inl (fun _ => 0))), (q52, .inl (cy 1, 15, .inr (.inr (.inr (.inl (fun _ => 0)))))), (q60, .inl (cy 1, 15, .inr (.inr (.inr (.inl (fun _ => 0))))))]) := hD
  refine W.widen (k := 7) (n := 12830) (by omega) (by omega) ?_
  refine va_putF (D := D) (ci := 12) (v := .ref q60) (C := RX10) (T := TX10) (N := 12) hx hb hts hin_X10 tyX10 tyX10_ok nmX10 hown hE.1 hP hD hS 0 rfl rfl 11 (by decide) (hts (.fieldLink RX10 31 "MailSieve$Store" "picked" "[D") (List.mem_of_getElem? (i := 14) rfl)) (fun _ h9 => h9) rfl hin9 rfl (ty := tyX10 11) (by decide +kernel) rfl rfl (Nat.le_of_ble_eq_true rfl) dX10_init_62 (fun H locs hP hD hS => ?_)
  have hP : va_P D vwCl ([(h0, .inr (12, [.ref q8, .ref q17, .ref q26, .ref q35, .int 0, .int 0, .int 0, .ref q44, .int 0, .int 0, .ref q52, .ref q60])), (q8, .inl (cy 3, 200, .inr (.inl (fun _ => 0)))), (q17, .inl (cy 2, 200, .inl (fun _ => 0))), (q26, .inl (cy 2, 200, .inl (fun _ => 0))), (q35, .inl (cy 2, 200, .inl (fun _ => 0))), (q44, .inl (cy 0, 12000, .inl (fun _ => 0))), (q52, .inl (cy 1, 15, .inr (.inr (.inr (.inl (fun _ => 0)))))), (q60, .inl (cy 1, 15, .inr (.inr (.inr (.inl (fun _ => 0))))))]) H := hP
  have hD : va_D A ([(h0, .inr (12, [.ref q8, .ref q17, .ref q26, .ref q35, .int 0, .int 0, .int 0, .ref q44, .int 0, .int 0, .ref q52, .ref q60])), (q8, .inl (cy 3, 200, .inr (.inl (fun _ => 0)))), (q17, .inl (cy 2, 200, .inl (fun _ => 0))), (q26, .inl (cy 2, 200, .inl (fun _ => 0))), (q35, .inl (cy 2, 200, .inl (fun _ => 0))), (q44, .inl (cy 0, 12000, .inl (fun _ => 0))), (q52, .inl (cy 1, 15, .inr (.inr (.inr (.inl (fun _ => 0)))))), (q60, .inl (cy 1, 15, .inr (.inr (.inr (.inl (fun _ => 0))))))]) := hD
  exact xr_v (fun i => match i with | 0 => (fun k => match k with | 0 => q8 | 1 => q17 | 2 => q26 | 3 => q35 | 4 => q44 | 5 => q52 | 6 => q60 | _ => 0) | _ => (fun _ => 0)) hx hb hr hlocks trivial hP hD hS dX10_init_65
def wsX2_init : List Cond := .code yX2_init cX2_init 1 none :: ([.methodLink RX2 3 objectInit, .instanceMethod objectInit, .code objectInit ⟨#[0xb1]⟩ 1 none, .arrayClass .byte, .fieldLink RX2 9 "MailSieve$LineReader" "source" "[B", .arrayClass .int, .fieldLink RX2 15 "MailSieve$LineReader" "steps" "[I"] ++ wsX20)
theorem dX2_init_0 : decode cX2_init 0 = .ok (.aload_n 0, 1) := by decide +kernel
theorem dX2_init_1 : decode cX2_init 1 = .ok (.invokespecial 3, 3) := by decide +kernel
theorem dX2_init_4 : decode cX2_init 4 = .ok (.aload_n 0, 1) := by decide +kernel
theorem dX2_init_5 : decode cX2_init 5 = .ok (.iconst 0, 1) := by decide +kernel
theorem dX2_init_6 : decode cX2_init 6 = .ok (.newarray .byte, 2) := by decide +kernel
theorem dX2_init_8 : decode cX2_init 8 = .ok (.putfield 9, 3) := by decide +kernel
theorem dX2_init_11 : decode cX2_init 11 = .ok (.aload_n 0, 1) := by decide +kernel
theorem dX2_init_12 : decode cX2_init 12 = .ok (.sipush 12000, 3) := by decide +kernel
theorem dX2_init_15 : decode cX2_init 15 = .ok (.newarray .int, 2) := by decide +kernel
theorem dX2_init_17 : decode cX2_init 17 = .ok (.putfield 15, 3) := by decide +kernel
theorem dX2_init_20 : decode cX2_init 20 = .ok (.return_, 1) := by decide +kernel
/-- MailSieve$LineReader: its cells behind its constructor -/
def xi_X2 (cy : Nat → ClassId) (h : Nat) (u : Nat → Nat → Nat) : va_W := [(h, .inr (4, [.ref (u 0 0), .int 0, .int 0, .int 0, .int 0, .int 0, .int 0, .int 0, .int 0, .int 0, .int 0, .int 0, .ref (u 0 1), .int 0, .int 0, .int 0, .int 0])), ((u 0 0), .inl (cy 0, 0, .inl (fun _ => 0))), ((u 0 1), .inl (cy 2, 12000, .inl (fun _ => 0)))]
set_option maxHeartbeats 4000000 in
set_option maxRecDepth 100000 in
theorem c_X2_init (l : Launch) (cy : Nat → ClassId) (D : va_G) (sz h0 : Nat) : Met l yX2_init wsX2_init { frames := 1, cells := 2, slots := 12000, locals := 12 } (xPc cy D [.ref h0] [(h0, .inr (4, [.null, .int 0, .int 0, .int 0, .int 0, .int 0, .int 0, .int 0, .int 0, .int 0, .int 0, .int 0, .null, .int 0, .int 0, .int 0, .int 0]))] sz) (va_Qv (fun _ : Nat → Nat → Nat => True) (xB D (xi_X2 cy h0) (va_A [(h0, .inr (4, [.null, .int 0, .int 0, .int 0, .int 0, .int 0, .int 0, .int 0, .int 0, .int 0, .int 0, .int 0, .null, .int 0, .int 0, .int 0, .int 0]))] sz)) (va_A [(h0, .inr (4, [.null, .int 0, .int 0, .int 0, .int 0, .int 0, .int 0, .int 0, .int 0, .int 0, .int 0, .int 0, .null, .int 0, .int 0, .int 0, .int 0]))] sz)) 2 12000 (va_A [(h0, .inr (4, [.null, .int 0, .int 0, .int 0, .int 0, .int 0, .int 0, .int 0, .int 0, .int 0, .int 0, .int 0, .null, .int 0, .int 0, .int 0, .int 0]))] sz) := by
  refine Met.ofW (cc := cX2_init) (maxL := 1) (ret := none) (by decide) rfl ?_
  intro p e s m args below meth c s₁ B hml hv
  obtain ⟨rfl, hsz, hP, hE, hD0⟩ := hv
  have hx := B.exec
  have hb := B.bytes
  have hr := B.returns
  have hts := atoms_spec (ws := wsX2_init) B.pre
  have hown : s.vm.findClass RX2 = some m.cls := findClass_of_methodNamed B.named
  have hlocks := B.notSynchronized
  have hin9 : meth.name = "<init>" := (name_of_methodNamed B.named B.method).1
  have hin_X2 : ∀ q ∈ u_ws RX2 TX2 17, q ∈ wsX2_init := (fun _ h => List.mem_cons_of_mem _ (List.mem_append_right _ h))
  subst hsz
  have hD := hD0.self (sz := s.heap.size)
  generalize hAe : va_A ([(h0, .inr (4, [.null, .int 0, .int 0, .int 0, .int 0, .int 0, .int 0, .int 0, .int 0, .int 0, .int 0, .int 0, .null, .int 0, .int 0, .int 0, .int 0]))]) s.heap.size = A at hD ⊢
  have hA : ∀ q : Nat, s.heap.size ≤ q → A q := fun q h => by rw [← hAe]; exact Or.inr h
  have hS : va_S A s.heap s.heap [] := va_S.rf
  have hl := lv_entry ([.ref h0]) (n := 1) (Nat.le_of_ble_eq_true rfl)
  rw [lg_entry_eq]
  generalize (lg_sl ([.ref h0]) ++ List.replicate (1 - (lg_sl ([.ref h0])).length) Slot.unset).toArray = ls at hl ⊢
  have hl : lv_has ls 1 [(0, .ref h0)] := hl
  refine lv_aload_n hx hb dX2_init_0 rfl (lv_at hl 0 rfl) ?_
  refine W.objInit hx hb hown (hts (.methodLink RX2 3 objectInit) (List.mem_of_getElem? (i := 1) rfl)) (hts (.instanceMethod objectInit) (List.mem_of_getElem? (i := 2) rfl)) (hts _ (List.mem_of_getElem? (i := 3) rfl)) rfl (by rw [hml]; exact hl.1) rfl dX2_init_1 (Nat.le_of_ble_eq_true rfl) (Nat.le_of_ble_eq_true rfl) ?_
  refine W.eq (g2 := F0 m 4 ls []) rfl ?_
  refine lv_aload_n hx hb dX2_init_4 rfl (lv_at hl 0 rfl) ?_
  refine lv_iconst (v := 0) hx hb dX2_init_5 (by decide) ?_
  refine xa_newa (ty := .byte) (cA := cy 0) (a0 := (0, .inl (fun _ => 0))) hx hb (hts (.arrayClass .byte) (List.mem_of_getElem? (i := 4) rfl)) rfl hE.1 0 rfl (fun _ h => h) hP hD hS hA (fun _ => rfl) (by decide) (by decide) (by decide) (Nat.le_of_ble_eq_true rfl) (Nat.le_of_ble_eq_true rfl) dX2_init_6 (fun q6 H hP hD hS => ?_)
  have hP : va_P D vwCl ([(h0, .inr (4, [.null, .int 0, .int 0, .int 0, .int 0, .int 0, .int 0, .int 0, .int 0, .int 0, .int 0, .int 0, .null, .int 0, .int 0, .int 0, .int 0])), (q6, .inl (cy 0, 0, .inl (fun _ => 0)))]) H := hP
  have hD : va_D A ([(h0, .inr (4, [.null, .int 0, .int 0, .int 0, .int 0, .int 0, .int 0, .int 0, .int 0, .int 0, .int 0, .int 0, .null, .int 0, .int 0, .int 0, .int 0])), (q6, .inl (cy 0, 0, .inl (fun _ => 0)))]) := hD
  refine W.widen (k := 1) (n := 0) (by omega) (by omega) ?_
  refine va_put (D := D) (ci := 4) (v := .ref q6) (C := RX2) (T := TX2) (N := 17) hx hb hts hin_X2 tyX2 tyX2_ok nmX2 hown hE.1 hP hD hS 0 rfl rfl 0 (by decide) (hts (.fieldLink RX2 9 "MailSieve$LineReader" "source" "[B") (List.mem_of_getElem? (i := 5) rfl)) (fun _ h9 => h9) rfl (ty := tyX2 0) (by decide +kernel) rfl rfl (Nat.le_of_ble_eq_true rfl) dX2_init_8 (fun H locs hP hD hS => ?_)
  have hP : va_P D vwCl ([(h0, .inr (4, [.ref q6, .int 0, .int 0, .int 0, .int 0, .int 0, .int 0, .int 0, .int 0, .int 0, .int 0, .int 0, .null, .int 0, .int 0, .int 0, .int 0])), (q6, .inl (cy 0, 0, .inl (fun _ => 0)))]) H := hP
  have hD : va_D A ([(h0, .inr (4, [.ref q6, .int 0, .int 0, .int 0, .int 0, .int 0, .int 0, .int 0, .int 0, .int 0, .int 0, .int 0, .null, .int 0, .int 0, .int 0, .int 0])), (q6, .inl (cy 0, 0, .inl (fun _ => 0)))]) := hD
  refine lv_aload_n hx hb dX2_init_11 rfl (lv_at hl 0 rfl) ?_
  refine lv_sipush (v := 12000) hx hb dX2_init_12 (by decide) ?_
  refine xa_newa (ty := .int) (cA := cy 2) (a0 := (12000, .inl (fun _ => 0))) hx hb (hts (.arrayClass .int) (List.mem_of_getElem? (i := 6) rfl)) rfl hE.1 2 rfl (fun _ h => h) hP hD hS hA (fun _ => rfl) (by decide) (by decide) (by decide) (Nat.le_of_ble_eq_true rfl) (Nat.le_of_ble_eq_true rfl) dX2_init_15 (fun q15 H hP hD hS => ?_)
  have hP : va_P D vwCl ([(h0, .inr (4, [.ref q6, .int 0, .int 0, .int 0, .int 0, .int 0, .int 0, .int 0, .int 0, .int 0, .int 0, .int 0, .null, .int 0, .int 0, .int 0, .int 0])), (q6, .inl (cy 0, 0, .inl (fun _ => 0))), (q15, .inl (cy 2, 12000, .inl (fun _ => 0)))]) H := hP
  have hD : va_D A ([(h0, .inr (4, [.ref q6, .int 0, .int 0, .int 0, .int 0, .int 0, .int 0, .int 0, .int 0, .int 0, .int 0, .int 0, .null, .int 0, .int 0, .int 0, .int 0])), (q6, .inl (cy 0, 0, .inl (fun _ => 0))), (q15, .inl (cy 2, 12000, .inl (fun _ => 0)))]) := hD
  refine W.widen (k := 2) (n := 12000) (by omega) (by omega) ?_
  refine va_putF (D := D) (ci := 4) (v := .ref q15) (C := RX2) (T := TX2) (N := 17) hx hb hts hin_X2 tyX2 tyX2_ok nmX2 hown hE.1 hP hD hS 0 rfl rfl 12 (by decide) (hts (.fieldLink RX2 15 "MailSieve$LineReader" "steps" "[I") (List.mem_of_getElem? (i := 7) rfl)) (fun _ h9 => h9) rfl hin9 rfl (ty := tyX2 12) (by decide +kernel) rfl rfl (Nat.le_of_ble_eq_true rfl) dX2_init_17 (fun H locs hP hD hS => ?_)
  have hP : va_P D vwCl ([(h0, .inr (4, [.ref q6, .int 0, .int 0, .int 0, .int 0, .int 0, .int 0, .int 0, .int 0, .int 0, .int 0, .int 0, .ref q15, .int 0, .int 0, .int 0, .int 0])), (q6, .inl (cy 0, 0, .inl (fun _ => 0))), (q15, .inl (cy 2, 12000, .inl (fun _ => 0)))]) H := hP
  have hD : va_D A ([(h0, .inr (4, [.ref q6, .int 0, .int 0, .int 0, .int 0, .int 0, .int 0, .int 0, .int 0, .int 0, .int 0, .int 0, .ref q15, .int 0, .int 0, .int 0, .int 0])), (q6, .inl (cy 0, 0, .inl (fun _ => 0))), (q15, .inl (cy 2, 12000, .inl (fun _ => 0)))]) := hD
  exact xr_v (fun i => match i with | 0 => (fun k => match k with | 0 => q6 | 1 => q15 | _ => 0) | _ => (fun _ => 0)) hx hb hr hlocks trivial hP hD hS dX2_init_20
def wsX5_init : List Cond := .code yX5_init cX5_init 1 none :: ([.methodLink RX5 1 objectInit, .instanceMethod objectInit, .code objectInit ⟨#[0xb1]⟩ 1 none, .arrayClass .byte, .fieldLink RX5 9 "MailSieve$Mime" "value" "[B", .fieldLink RX5 15 "MailSieve$Mime" "coded" "[B", .fieldLink RX5 18 "MailSieve$Mime" "boundary" "[B", .fieldLink RX5 21 "MailSieve$Mime" "tail" "[B"] ++ wsX50)
theorem dX5_init_0 : decode cX5_init 0 = .ok (.aload_n 0, 1) := by decide +kernel
theorem dX5_init_1 : decode cX5_init 1 = .ok (.invokespecial 1, 3) := by decide +kernel
theorem dX5_init_4 : decode cX5_init 4 = .ok (.aload_n 0, 1) := by decide +kernel
theorem dX5_init_5 : decode cX5_init 5 = .ok (.sipush 6000, 3) := by decide +kernel
theorem dX5_init_8 : decode cX5_init 8 = .ok (.newarray .byte, 2) := by decide +kernel
theorem dX5_init_10 : decode cX5_init 10 = .ok (.putfield 9, 3) := by decide +kernel
theorem dX5_init_13 : decode cX5_init 13 = .ok (.aload_n 0, 1) := by decide +kernel
theorem dX5_init_14 : decode cX5_init 14 = .ok (.sipush 6000, 3) := by decide +kernel
theorem dX5_init_17 : decode cX5_init 17 = .ok (.newarray .byte, 2) := by decide +kernel
theorem dX5_init_19 : decode cX5_init 19 = .ok (.putfield 15, 3) := by decide +kernel
theorem dX5_init_22 : decode cX5_init 22 = .ok (.aload_n 0, 1) := by decide +kernel
theorem dX5_init_23 : decode cX5_init 23 = .ok (.bipush 70, 2) := by decide +kernel
theorem dX5_init_25 : decode cX5_init 25 = .ok (.newarray .byte, 2) := by decide +kernel
theorem dX5_init_27 : decode cX5_init 27 = .ok (.putfield 18, 3) := by decide +kernel
theorem dX5_init_30 : decode cX5_init 30 = .ok (.aload_n 0, 1) := by decide +kernel
theorem dX5_init_31 : decode cX5_init 31 = .ok (.bipush 9, 2) := by decide +kernel
theorem dX5_init_33 : decode cX5_init 33 = .ok (.newarray .byte, 2) := by decide +kernel
theorem dX5_init_35 : decode cX5_init 35 = .ok (.putfield 21, 3) := by decide +kernel
theorem dX5_init_38 : decode cX5_init 38 = .ok (.return_, 1) := by decide +kernel
/-- MailSieve$Mime: its cells behind its constructor -/
def xi_X5 (cy : Nat → ClassId) (h : Nat) (u : Nat → Nat → Nat) : va_W := [(h, .inr (7, [.ref (u 0 0), .int 0, .ref (u 0 1), .int 0, .int 0, .int 0, .ref (u 0 2), .int 0, .ref (u 0 3), .int 0, .int 0, .int 0, .int 0, .int 0, .int 0, .int 0])), ((u 0 0), .inl (cy 0, 6000, .inl (fun _ => 0))), ((u 0 1), .inl (cy 0, 6000, .inl (fun _ => 0))), ((u 0 2), .inl (cy 0, 70, .inl (fun _ => 0))), ((u 0 3), .inl (cy 0, 9, .inl (fun _ => 0)))]
set_option maxHeartbeats 4000000 in
set_option maxRecDepth 100000 in
theorem c_X5_init (l : Launch) (cy : Nat → ClassId) (D : va_G) (sz h0 : Nat) : Met l yX5_init wsX5_init { frames := 1, cells := 4, slots := 12079, locals := 12 } (xPc cy D [.ref h0] [(h0, .inr (7, [.null, .int 0, .null, .int 0, .int 0, .int 0, .null, .int 0, .null, .int 0, .int 0, .int 0, .int 0, .int 0, .int 0, .int 0]))] sz) (va_Qv (fun _ : Nat → Nat → Nat => True) (xB D (xi_X5 cy h0) (va_A [(h0, .inr (7, [.null, .int 0, .null, .int 0, .int 0, .int 0, .null, .int 0, .null, .int 0, .int 0, .int 0, .int 0, .int 0, .int 0, .int 0]))] sz)) (va_A [(h0, .inr (7, [.null, .int 0, .null, .int 0, .int 0, .int 0, .null, .int 0, .null, .int 0, .int 0, .int 0, .int 0, .int 0, .int 0, .int 0]))] sz)) 4 12079 (va_A [(h0, .inr (7, [.null, .int 0, .null, .int 0, .int 0, .int 0, .null, .int 0, .null, .int 0, .int 0, .int 0, .int 0, .int 0, .int 0, .int 0]))] sz) := by
  refine Met.ofW (cc := cX5_init) (maxL := 1) (ret := none) (by decide) rfl ?_
  intro p e s m args below meth c s₁ B hml hv
  obtain ⟨rfl, hsz, hP, hE, hD0⟩ := hv
  have hx := B.exec
  have hb := B.bytes
  have hr := B.returns
  have hts := atoms_spec (ws := wsX5_init) B.pre
  have hown : s.vm.findClass RX5 = some m.cls := findClass_of_methodNamed B.named
  have hlocks := B.notSynchronized
  have hin9 : meth.name = "<init>" := (name_of_methodNamed B.named B.method).1
  have hin_X5 : ∀ q ∈ u_ws RX5 TX5 16, q ∈ wsX5_init := (fun _ h => List.mem_cons_of_mem _ (List.mem_append_right _ h))
  subst hsz
  have hD := hD0.self (sz := s.heap.size)
  generalize hAe : va_A ([(h0, .inr (7, [.null, .int 0, .null, .int 0, .int 0, .int 0, .null, .int 0, .null, .int 0, .int 0, .int 0, .int 0, .int 0, .int 0, .int 0]))]) s.heap.size = A at hD ⊢
  have hA : ∀ q : Nat, s.heap.size ≤ q → A q := fun q h => by rw [← hAe]; exact Or.inr h
  have hS : va_S A s.heap s.heap [] := va_S.rf
  have hl := lv_entry ([.ref h0]) (n := 1) (Nat.le_of_ble_eq_true rfl)
  rw [lg_entry_eq]
  generalize (lg_sl ([.ref h0]) ++ List.replicate (1 - (lg_sl ([.ref h0])).length) Slot.unset).toArray = ls at hl ⊢
  have hl : lv_has ls 1 [(0, .ref h0)] := hl
  refine lv_aload_n hx hb dX5_init_0 rfl (lv_at hl 0 rfl) ?_
  refine W.objInit hx hb hown (hts (.methodLink RX5 1 objectInit) (List.mem_of_getElem? (i := 1) rfl)) (hts (.instanceMethod objectInit) (List.mem_of_getElem? (i := 2) rfl)) (hts _ (List.mem_of_getElem? (i := 3) rfl)) rfl (by rw [hml]; exact hl.1) rfl dX5_init_1 (Nat.le_of_ble_eq_true rfl) (Nat.le_of_ble_eq_true rfl) ?_
  refine W.eq (g2 := F0 m 4 ls []) rfl ?_
  refine lv_aload_n hx hb dX5_init_4 rfl (lv_at hl 0 rfl) ?_
  refine lv_sipush (v := 6000) hx hb dX5_init_5 (by decide) ?_
  refine xa_newa (ty := .byte) (cA := cy 0) (a0 := (6000, .inl (fun _ => 0))) hx hb (hts (.arrayClass .byte) (List.mem_of_getElem? (i := 4) rfl)) rfl hE.1 0 rfl (fun _ h => h) hP hD hS hA (fun _ => rfl) (by decide) (by decide) (by decide) (Nat.le_of_ble_eq_true rfl) (Nat.le_of_ble_eq_true rfl) dX5_init_8 (fun q8 H hP hD hS => ?_)
  have hP : va_P D vwCl ([(h0, .inr (7, [.null, .int 0, .null, .int 0, .int 0, .int 0, .null, .int 0, .null, .int 0, .int 0, .int 0, .int 0, .int 0, .int 0, .int 0])), (q8, .inl (cy 0, 6000, .inl (fun _ => 0)))]) H := hP
  have hD : va_D A ([(h0, .inr (7, [.null, .int 0, .null, .int 0, .int 0, .int 0, .null, .int 0, .null, .int 0, .int 0, .int 0, .int 0, .int 0, .int 0, .int 0])), (q8, .inl (cy 0, 6000, .inl (fun _ => 0)))]) := hD
  refine W.widen (k := 1) (n := 6000) (by omega) (by omega) ?_
  refine va_putF (D := D) (ci := 7) (v := .ref q8) (C := RX5) (T := TX5) (N := 16) hx hb hts hin_X5 tyX5 tyX5_ok nmX5 hown hE.1 hP hD hS 0 rfl rfl 0 (by decide) (hts (.fieldLink RX5 9 "MailSieve$Mime" "value" "[B") (List.mem_of_getElem? (i := 5) rfl)) (fun _ h9 => h9) rfl hin9 rfl (ty := tyX5 0) (by decide +kernel) rfl rfl (Nat.le_of_ble_eq_true rfl) dX5_init_10 (fun H locs hP hD hS => ?_)
  have hP : va_P D vwCl ([(h0, .inr (7, [.ref q8, .int 0, .null, .int 0, .int 0, .int 0, .null, .int 0, .null, .int 0, .int 0, .int 0, .int 0, .int 0, .int 0, .int 0])), (q8, .inl (cy 0, 6000, .inl (fun _ => 0)))]) H := hP
  have hD : va_D A ([(h0, .inr (7, [.ref q8, .int 0, .null, .int 0, .int 0, .int 0, .null, .int 0, .null, .int 0, .int 0, .int 0, .int 0, .int 0, .int 0, .int 0])), (q8, .inl (cy 0, 6000, .inl (fun _ => 0)))]) := hD
  refine lv_aload_n hx hb dX5_init_13 rfl (lv_at hl 0 rfl) ?_
  refine lv_sipush (v := 6000) hx hb dX5_init_14 (by decide) ?_
  refine xa_newa (ty := .byte) (cA := cy 0) (a0 := (6000, .inl (fun _ => 0))) hx hb (hts (.arrayClass .byte) (List.mem_of_getElem? (i := 4) rfl)) rfl hE.1 0 rfl (fun _ h => h) hP hD hS hA (fun _ => rfl) (by decide) (by decide) (by decide) (Nat.le_of_ble_eq_true rfl) (Nat.le_of_ble_eq_true rfl) dX5_init_17 (fun q17 H hP hD hS => ?_)
  have hP : va_P D vwCl ([(h0, .inr (7, [.ref q8, .int 0, .null, .int 0, .int 0, .int 0, .null, .int 0, .null, .int 0, .int 0, .int 0, .int 0, .int 0, .int 0, .int 0])), (q8, .inl (cy 0, 6000, .inl (fun _ => 0))), (q17, .inl (cy 0, 6000, .inl (fun _ => 0)))]) H := hP
  have hD : va_D A ([(h0, .inr (7, [.ref q8, .int 0, .null, .int 0, .int 0, .int 0, .null, .int 0, .null, .int 0, .int 0, .int 0, .int 0, .int 0, .int 0, .int 0])), (q8, .inl (cy 0, 6000, .inl (fun _ => 0))), (q17, .inl (cy 0, 6000, .inl (fun _ => 0)))]) := hD
  refine W.widen (k := 2) (n := 12000) (by omega) (by omega) ?_
  refine va_putF (D := D) (ci := 7) (v := .ref q17) (C := RX5) (T := TX5) (N := 16) hx hb hts hin_X5 tyX5 tyX5_ok nmX5 hown hE.1 hP hD hS 0 rfl rfl 2 (by decide) (hts (.fieldLink RX5 15 "MailSieve$Mime" "coded" "[B") (List.mem_of_getElem? (i := 6) rfl)) (fun _ h9 => h9) rfl hin9 rfl (ty := tyX5 2) (by decide +kernel) rfl rfl (Nat.le_of_ble_eq_true rfl) dX5_init_19 (fun H locs hP hD hS => ?_)
  have hP : va_P D vwCl ([(h0, .inr (7, [.ref q8, .int 0, .ref q17, .int 0, .int 0, .int 0, .null, .int 0, .null, .int 0, .int 0, .int 0, .int 0, .int 0, .int 0, .int 0])), (q8, .inl (cy 0, 6000, .inl (fun _ => 0))), (q17, .inl (cy 0, 6000, .inl (fun _ => 0)))]) H := hP
  have hD : va_D A ([(h0, .inr (7, [.ref q8, .int 0, .ref q17, .int 0, .int 0, .int 0, .null, .int 0, .null, .int 0, .int 0, .int 0, .int 0, .int 0, .int 0, .int 0])), (q8, .inl (cy 0, 6000, .inl (fun _ => 0))), (q17, .inl (cy 0, 6000, .inl (fun _ => 0)))]) := hD
  refine lv_aload_n hx hb dX5_init_22 rfl (lv_at hl 0 rfl) ?_
  refine lv_bipush (v := 70) hx hb dX5_init_23 (by decide) ?_
  refine xa_newa (ty := .byte) (cA := cy 0) (a0 := (70, .inl (fun _ => 0))) hx hb (hts (.arrayClass .byte) (List.mem_of_getElem? (i := 4) rfl)) rfl hE.1 0 rfl (fun _ h => h) hP hD hS hA (fun _ => rfl) (by decide) (by decide) (by decide) (Nat.le_of_ble_eq_true rfl) (Nat.le_of_ble_eq_true rfl) dX5_init_25 (fun q25 H hP hD hS => ?_)
  have hP : va_P D vwCl ([(h0, .inr (7, [.ref q8, .int 0, .ref q17, .int 0, .int 0, .int 0, .null, .int 0, .null, .int 0, .int 0, .int 0, .int 0, .int 0, .int 0, .int 0])), (q8, .inl (cy 0, 6000, .inl (fun _ => 0))), (q17, .inl (cy 0, 6000, .inl (fun _ => 0))), (q25, .inl (cy 0, 70, .inl (fun _ => 0)))]) H := hP
  have hD : va_D A ([(h0, .inr (7, [.ref q8, .int 0, .ref q17, .int 0, .int 0, .int 0, .null, .int 0, .null, .int 0, .int 0, .int 0, .int 0, .int 0, .int 0, .int 0])), (q8, .inl (cy 0, 6000, .inl (fun _ => 0))), (q17, .inl (cy 0, 6000, .inl (fun _ => 0))), (q25, .inl (cy 0, 70, .inl (fun _ => 0)))]) := hD
  refine W.widen (k := 3) (n := 12070) (by omega) (by omega) ?_
  refine va_putF (D := D) (ci := 7) (v := .ref q25) (C := RX5) (T := TX5) (N := 16) hx hb hts hin_X5 tyX5 tyX5_ok nmX5 hown hE.1 hP hD hS 0 rfl rfl 6 (by decide) (hts (.fieldLink RX5 18 "MailSieve$Mime" "boundary" "[B") (List.mem_of_getElem? (i := 7) rfl)) (fun _ h9 => h9) rfl hin9 rfl (ty := tyX5 6) (by decide +kernel) rfl rfl (Nat.le_of_ble_eq_true rfl) dX5_init_27 (fun H locs hP hD hS => ?_)
  have hP : va_P D vwCl ([(h0, .inr (7, [.ref q8, .int 0, .ref q17, .int 0, .int 0, .int 0, .ref q25, .int 0, .null, .int 0, .int 0, .int 0, .int 0, .int 0, .int 0, .int 0])), (q8, .inl (cy 0, 6000, .inl (fun _ => 0))), (q17, .inl (cy 0, 6000, .inl (fun _ => 0))), (q25, .inl (cy 0, 70, .inl (fun _ => 0)))]) H := hP
  have hD : va_D A ([(h0, .inr (7, [.ref q8, .int 0, .ref q17, .int 0, .int 0, .int 0, .ref q25, .int 0, .null, .int 0, .int 0, .int 0, .int 0, .int 0, .int 0, .int 0])), (q8, .inl (cy 0, 6000, .inl (fun _ => 0))), (q17, .inl (cy 0, 6000, .inl (fun _ => 0))), (q25, .inl (cy 0, 70, .inl (fun _ => 0)))]) := hD
  refine lv_aload_n hx hb dX5_init_30 rfl (lv_at hl 0 rfl) ?_
  refine lv_bipush (v := 9) hx hb dX5_init_31 (by decide) ?_
  refine xa_newa (ty := .byte) (cA := cy 0) (a0 := (9, .inl (fun _ => 0))) hx hb (hts (.arrayClass .byte) (List.mem_of_getElem? (i := 4) rfl)) rfl hE.1 0 rfl (fun _ h => h) hP hD hS hA (fun _ => rfl) (by decide) (by decide) (by decide) (Nat.le_of_ble_eq_true rfl) (Nat.le_of_ble_eq_true rfl) dX5_init_33 (fun q33 H hP hD hS => ?_)
  have hP : va_P D vwCl ([(h0, .inr (7, [.ref q8, .int 0, .ref q17, .int 0, .int 0, .int 0, .ref q25, .int 0, .null, .int 0, .int 0, .int 0, .int 0, .int 0, .int 0, .int 0])), (q8, .inl (cy 0, 6000, .inl (fun _ => 0))), (q17, .inl (cy 0, 6000, .inl (fun _ => 0))), (q25, .inl (cy 0, 70, .inl (fun _ => 0))), (q33, .inl (cy 0, 9, .inl (fun _ => 0)))]) H := hP
  have hD : va_D A ([(h0, .inr (7, [.ref q8, .int 0, .ref q17, .int 0, .int 0, .int 0, .ref q25, .int 0, .null, .int 0, .int 0, .int 0, .int 0, .int 0, .int 0, .int 0])), (q8, .inl (cy 0, 6000, .inl (fun _ => 0))), (q17, .inl (cy 0, 6000, .inl (fun _ => 0))), (q25, .inl (cy 0, 70, .inl (fun _ => 0))), (q33, .inl (cy 0, 9, .inl (fun _ => 0)))]) := hD
  refine W.widen (k := 4) (n := 12079) (by omega) (by omega) ?_
  refine va_putF (D := D) (ci := 7) (v := .ref q33) (C := RX5) (T := TX5) (N := 16) hx hb hts hin_X5 tyX5 tyX5_ok nmX5 hown hE.1 hP hD hS 0 rfl rfl 8 (by decide) (hts (.fieldLink RX5 21 "MailSieve$Mime" "tail" "[B") (List.mem_of_getElem? (i := 8) rfl)) (fun _ h9 => h9) rfl hin9 rfl (ty := tyX5 8) (by decide +kernel) rfl rfl (Nat.le_of_ble_eq_true rfl) dX5_init_35 (fun H locs hP hD hS => ?_)
  have hP : va_P D vwCl ([(h0, .inr (7, [.ref q8, .int 0, .ref q17, .int 0, .int 0, .int 0, .ref q25, .int 0, .ref q33, .int 0, .int 0, .int 0, .int 0, .int 0, .int 0, .int 0])), (q8, .inl (cy 0, 6000, .inl (fun _ => 0))), (q17, .inl (cy 0, 6000, .inl (fun _ => 0))), (q25, .inl (cy 0, 70, .inl (fun _ => 0))), (q33, .inl (cy 0, 9, .inl (fun _ => 0)))]) H := hP
  have hD : va_D A ([(h0, .inr (7, [.ref q8, .int 0, .ref q17, .int 0, .int 0, .int 0, .ref q25, .int 0, .ref q33, .int 0, .int 0, .int 0, .int 0, .int 0, .int 0, .int 0])), (q8, .inl (cy 0, 6000, .inl (fun _ => 0))), (q17, .inl (cy 0, 6000, .inl (fun _ => 0))), (q25, .inl (cy 0, 70, .inl (fun _ => 0))), (q33, .inl (cy 0, 9, .inl (fun _ => 0)))]) := hD
  exact xr_v (fun i => match i with | 0 => (fun k => match k with | 0 => q8 | 1 => q17 | 2 => q25 | 3 => q33 | _ => 0) | _ => (fun _ => 0)) hx hb hr hlocks trivial hP hD hS dX5_init_38
