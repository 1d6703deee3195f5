/-! worlds by membership -/
theorem xP_iff {D : va_G} {cl : List vw_C} {ws : va_W} {H : Heap} : va_P D cl ws H ↔ ∀ q ∈ ws, va_at D cl q H := ⟨fun h q hq => by obtain ⟨i, hi⟩ := List.getElem?_of_mem hq; exact h i q hi, fun h k q hk => h q (List.mem_of_getElem? hk)⟩
theorem xD_nd {A : Nat → Prop} {ws : va_W} (h : va_D A ws) : (ws.map (·.1)).Nodup := by
  rw [List.nodup_iff_getElem?_ne_getElem?]
  intro i j hij hj
  simp only [List.length_map] at hj
  intro e
  simp only [List.getElem?_map] at e
  obtain ⟨p, hp⟩ : ∃ p, ws[i]? = some p := ⟨_, List.getElem?_eq_getElem (by omega)⟩
  obtain ⟨q, hq⟩ : ∃ q, ws[j]? = some q := ⟨_, List.getElem?_eq_getElem hj⟩
  rw [hp, hq] at e
  have := h.1 i j p q hp hq (Option.some.inj e)
  omega
theorem xD_of {A : Nat → Prop} {ws : va_W} (h : (ws.map (·.1)).Nodup) (hA : ∀ q ∈ ws, A q.1) : va_D A ws := by
  refine ⟨fun i j p q hp hq e => ?_, fun k q hk => hA q (List.mem_of_getElem? hk)⟩
  have hi : i < ws.length := (List.getElem?_eq_some_iff.mp hp).1
  have hj : j < ws.length := (List.getElem?_eq_some_iff.mp hq).1
  rw [List.nodup_iff_getElem?_ne_getElem?] at h
  rcases Nat.lt_trichotomy i j with q1 | q1 | q1
  · exact absurd (by simp only [List.getElem?_map, hp, hq, Option.map_some, e]) (h i j q1 (by simpa using hj))
  · exact q1
  · exact absurd (by simp only [List.getElem?_map, hp, hq, Option.map_some, e]) (h j i q1 (by simpa using hi))
theorem xP_perm {D : va_G} {cl : List vw_C} {a b : va_W} {H : Heap} (hp : a.Perm b) (h : va_P D cl a H) : va_P D cl b H := xP_iff.mpr fun q hq => xP_iff.mp h q (hp.mem_iff.mpr hq)
theorem xD_perm {A : Nat → Prop} {a b : va_W} (hp : a.Perm b) (h : va_D A a) : va_D A b := xD_of ((hp.map _).nodup_iff.mp (xD_nd h)) fun q hq => by
  obtain ⟨i, hi⟩ := List.getElem?_of_mem (hp.mem_iff.mpr hq)
  exact h.2 i q hi
/-! the words that are no part of a method's list: calls and fields of nest mates, arrays over a class -/
abbrev xT (cy : Nat → ClassId) : List (ClassId × FieldType) := [(cy 0, .byte), (cy 1, .double), (cy 2, .int), (cy 3, .long), (cy 4, .boolean), (cy 5, .object RX7), (cy 6, .object RX9), (cy 7, .array .byte), (cy 8, .array .int), (cy 9, .object RX12), (cy 10, .object RX13), (cy 11, .object RJ0)]
def xMN : List (String × Nat × MethodName × String) := [(RX11, 31, yX6_init, RX11), (RX11, 38, yX2_init, RX11), (RX11, 45, yX1_init, RX11), (RX1, 11, yX5_init, RX11), (RX11, 52, yX10_init, RX11), (RX11, 59, yX3_init, RX11), (RX11, 66, yX0_init, RX11), (RX11, 83, yX9_init, RX11), (RX9, 20, yX4_init, RX11), (RX9, 70, yX11_isDigit, RX11), (RX5, 24, yX11_isBlank, RX11), (RX5, 52, yX11_sameSmall, RX11), (RX4, 71, yX11_sameSmall, RX11), (RX5, 97, yX11_isLetter, RX11), (RX5, 100, yX11_isDigit, RX11), (RX5, 162, yX11_hexOf, RX11), (RX1, 261, yX11_isLetter, RX11), (RX1, 314, yX11_isBlank, RX11), (RX1, 287, yX11_isDigit, RX11), (RX5, 195, yX11_small, RX11), (RX1, 243, yX11_small, RX11), (RX1, 372, yX11_digestStep, RX11), (RX1, 379, yX11_digestChar, RX11), (RX4, 85, yX11_small, RX11), (RX2, 228, yX11_isGreat, RX11), (RX2, 231, yX11_isDigit, RX11), (RX2, 237, yX11_isLetter, RX11), (RX6, 118, yX11_isDigit, RX11), (RX6, 113, yX11_isLetter, RX11), (RX6, 154, yX11_isGreat, RX11), (RX3, 106, yX11_small, RX11), (RX14, 489, yX12_init, RX14), (RX14, 490, yX13_init, RX14)]
def xFN : List (String × Nat × String × String × String × String) := [(RX14, 360, RX12, "rules", "I", RX14), (RX14, 367, RX12, "zones", "I", RX14), (RX14, 404, RX12, "grey", "I", RX14), (RX14, 407, RX12, "limits", "[I", RX14), (RX14, 373, RX12, "kind", "[I", RX14), (RX14, 376, RX12, "name", "[Ljava/lang/String;", RX14), (RX14, 380, RX12, "field", "[Ljava/lang/String;", RX14), (RX14, 383, RX12, "text", "[Ljava/lang/String;", RX14), (RX14, 386, RX12, "flag", "[Z", RX14), (RX14, 389, RX12, "low", "[I", RX14), (RX14, 392, RX12, "high", "[I", RX14), (RX14, 395, RX12, "weight", "[I", RX14), (RX14, 398, RX12, "priority", "[I", RX14), (RX14, 401, RX12, "zone", "[Ljava/lang/String;", RX14), (RX14, 448, RX12, "order", "[I", RX14), (RX14, 629, RX13, "state", "I", RX14), (RX14, 735, RX13, "granted", "I", RX14), (RX14, 654, RX13, "kept", "[I", RX14), (RX14, 657, RX13, "keptBytes", "I", RX14), (RX14, 645, RX13, "out", "[I", RX14), (RX14, 642, RX13, "outs", "I", RX14), (RX14, 744, RX13, "hasAddress", "Z", RX14), (RX14, 738, RX13, "address", "[I", RX14), (RX14, 679, RX13, "met", "Z", RX14), (RX14, 763, RX13, "mail", "Z", RX14), (RX14, 709, RX13, "great", "Z", RX14), (RX14, 462, RX13, "set", "LMailSieveModel$RuleSet;", RX14), (RX14, 768, RX13, "sender", "[I", RX14), (RX14, 765, RX13, "senderBytes", "I", RX14), (RX14, 771, RX13, "recipients", "I", RX14), (RX14, 777, RX13, "headers", "I", RX14), (RX14, 789, RX13, "store", "[I", RX14), (RX14, 780, RX13, "stored", "I", RX14), (RX14, 783, RX13, "nameAt", "[I", RX14), (RX14, 786, RX13, "valueAt", "[I", RX14), (RX14, 794, RX13, "body", "[I", RX14), (RX14, 792, RX13, "bodyBytes", "I", RX14), (RX14, 817, RX13, "judged", "Z", RX14), (RX14, 1192, RX13, "judgedGreat", "Z", RX14), (RX14, 820, RX13, "score", "I", RX14), (RX14, 823, RX13, "helds", "I", RX14), (RX14, 837, RX13, "held", "[I", RX14), (RX14, 826, RX13, "parts", "I", RX14), (RX14, 840, RX13, "text", "[I", RX14), (RX14, 829, RX13, "chars", "I", RX14), (RX14, 831, RX13, "uris", "I", RX14), (RX14, 1223, RX13, "tokens", "[J", RX14), (RX14, 834, RX13, "tokenCount", "I", RX14), (RX14, 841, RX13, "indicator", "D", RX14), (RX14, 807, RX13, "pending", "D", RX14)]
def xAO : List String := [RX7, RX9, RX12, RX13, RJ0]
def xAA : List FieldType := [.byte, .int]
def xAOA (ty : FieldType) (U : State) : Prop := (Cond.arrayOver (.array ty)).before #[] U = true
def xE (cy : Nat → ClassId) (D : va_G) (U : State) : Prop := va_K D vwCl (xT cy) U ∧ (∀ q ∈ xMN, va_Nw (.methodLinkNest q.1 q.2.1 q.2.2.1 q.2.2.2) U) ∧ (∀ q ∈ xFN, va_Nw (.fieldLinkNest q.1 q.2.1 q.2.2.1 q.2.2.2.1 q.2.2.2.2.1 q.2.2.2.2.2) U) ∧ (∀ C ∈ xAO, va_AO C U) ∧ ∀ ty ∈ xAA, xAOA ty U
theorem xAO_specA {s : State} {t : FieldType} (h : xAOA t s) : ∃ comp c k, s.vm.findClass (FieldType.array t).toString = some comp ∧ (s.vm.classes.findIdx? fun (x : Class) => match x.kind with | .array component _ => component == comp | _ => false) = some c ∧ s.vm.classes[c]? = some k ∧ k.kind = .array comp (.array t) ∧ s.vm.findClass ("[" ++ (FieldType.array t).toString) = some c := by
  unfold xAOA Cond.before at h
  simp only [Cond.holds, Cond.value, beq_iff_eq] at h
  cases hc : s.vm.findClass (FieldType.array t).toString with
  | none => simp [hc] at h
  | some comp =>
    simp only [hc, Option.bind_some, Option.bind_eq_some_iff, Option.map_eq_some_iff] at h
    obtain ⟨c, hi, k, hk, hb⟩ := h
    have hp := (Array.findIdx?_eq_some_iff_getElem.mp hi).2.1
    rw [(Array.getElem?_eq_some_iff.mp hk).2] at hp
    cases hkind : k.kind with
    | array component ty =>
      rw [hkind] at hb hp
      simp at hb hp
      exact ⟨comp, c, k, rfl, hi, hk, by rw [hkind, hp, hb.1], hb.2⟩
    | _ => rw [hkind] at hb; simp at hb
theorem xAOA.moved {t : FieldType} {u U : State} (hvm : u.vm.Alike U.vm) (h : xAOA t u) : xAOA t U := by
  obtain ⟨comp, c, k, h1, h2, h3, h4, h5⟩ := xAO_specA h
  obtain ⟨k', hk', he⟩ := hvm.2.2 _ _ h3
  have hi : (U.vm.classes.findIdx? fun (x : Class) => match x.kind with | .array component _ => component == comp | _ => false) = some c := by
    rw [← va_idx_bare]
    first | rw [hvm.bare_eq] | rw [← hvm.bare_eq]
    rw [va_idx_bare]
    exact h2
  have hkind : k'.kind = .array comp (.array t) := by rw [he]; exact h4
  have f1 : U.vm.findClass (FieldType.array t).toString = some comp := by rw [hvm.findClass]; exact h1
  have f2 : U.vm.findClass ("[" ++ (FieldType.array t).toString) = some c := by rw [hvm.findClass]; exact h5
  unfold xAOA Cond.before Cond.holds
  simp only [Cond.value]
  rw [f1, Option.bind_some]
  refine (congrArg (fun o : Option Nat => (o.bind (fun c => (U.vm.classes[c]?).map fun (k : Class) => match k.kind with | .array _ ty => decide (ty = FieldType.array t) && decide (U.vm.findClass ("[" ++ (FieldType.array t).toString) = some c) | _ => false) == some true)) hi).trans ?_
  simp [hk', hkind, f2]
theorem xE.warm {cy : Nat → ClassId} {D : va_G} {s U : State} (hW : s.WarmedH U.vm) (h : xE cy D s) : xE cy D U := ⟨va_K.moved hW.alike h.1, fun q hq => va_Nw.warmM hW (h.2.1 q hq), fun q hq => va_Nw.warmF hW (h.2.2.1 q hq), fun C hC => va_AO.moved hW.alike (h.2.2.2.1 C hC), fun t ht => xAOA.moved hW.alike (h.2.2.2.2 t ht)⟩
theorem xE.same {cy : Nat → ClassId} {D : va_G} {u U : State} (e : u.vm = U.vm) (h : xE cy D u) : xE cy D U := ⟨va_K.moved (by rw [e]; exact Vm.Alike.refl _) h.1, fun q hq => va_Nw.same rfl e (h.2.1 q hq), fun q hq => va_Nw.same rfl e (h.2.2.1 q hq), fun C hC => va_AO.moved (by rw [e]; exact Vm.Alike.refl _) (h.2.2.2.1 C hC), fun t ht => xAOA.moved (by rw [e]; exact Vm.Alike.refl _) (h.2.2.2.2 t ht)⟩
/-- a contract's start and what holds of the cells at its end -/
def xPc (cy : Nat → ClassId) (D : va_G) (av : List Value) (ws : va_W) (sz : Nat) : Array Value → State → Prop := va_Pc av (fun U => U.heap.size = sz ∧ va_P D vwCl ws U.heap ∧ xE cy D U ∧ va_D (fun _ => True) ws)
theorem xPc_blind {cy : Nat → ClassId} {D : va_G} {av : List Value} {ws : va_W} {sz : Nat} : FrameBlind (xPc cy D av ws sz) := fun a U g mk q => ⟨q.1, q.2.1, q.2.2.1, xE.same (u := U) rfl q.2.2.2.1, q.2.2.2.2⟩
theorem xPc_of {cy : Nat → ClassId} {D : va_G} {av : List Value} {ws : va_W} {H : Heap} {s : State} {A : Nat → Prop} (hP : va_P D vwCl ws H) (hE : xE cy D s) (hD : va_D A ws) (U : State) (hU : U.heap = H) (hW : s.WarmedH U.vm) : xPc cy D av ws H.size av.toArray U := ⟨rfl, by rw [hU], by rw [hU]; exact hP, hE.warm hW, hD.weaken (fun _ _ _ _ => trivial)⟩
def xB {S : Type} (D : va_G) (Wd : S → va_W) (A : Nat → Prop) : S → State → Prop := fun u t => va_P D vwCl (Wd u) t.heap ∧ va_D A (Wd u)
section XO
variable {p : Program} {l : Launch} {e : Env} {R : Room} {s : State} {m : MethodId} {args : Array Value} {below : List Frame} {meth : Method} {c : Code} {H : Heap} {locs : List Loc} {cells slots : Nat} {Q : State → Prop}
variable {cc : ByteArray} {pc : Nat} {ls : Array Slot} {rest : List Value} {D : va_G} {cl : List vw_C} {A : Nat → Prop} {a : Nat} {tys : List (ClassId × FieldType)} {ws : va_W} {H0 : Heap}
theorem xa_newa (hexec : p.tables.exec = Jvm.exec) (hb : c.code = cc) {atype : ArrayType} (harr : (Cond.arrayClass (newarray.typeOf atype)).before args s = true) {ty : FieldType} (hty : newarray.typeOf atype = ty) (hK : va_K D cl tys s) (t0 : Nat) {cA : ClassId} (ht : tys[t0]? = some (cA, ty)) (hra : ∀ c1 : ClassId, va_RA s c1 ty → s.vm.findClass ("[" ++ ty.toString) = some c1) (hP : va_P D cl ws H) (hD : va_D A ws) (hS : va_S A H0 H locs) (hA : ∀ q, H0.size ≤ q → A q)
    {n : Int32} {N' : Nat} {a0 : vp_A} (ha : ∀ cA : ClassId, vp_cell cA a0 = arrV cA N' (fun _ => defaultValue ty)) (hn : ¬ n < 0) (hN : n.toNatClampNeg = N') (hbytes : N' * componentBytes ty ≤ 536870912) (hcells : cells + 1 ≤ R.cells) (hslots : slots + N' ≤ R.slots) (hdg : decode cc pc = .ok (.newarray atype, 2))
    (kk : ∀ (q : Nat) (H1 : Heap), va_P D cl (ws ++ [(q, .inl (cA, a0))]) H1 → va_D A (ws ++ [(q, .inl (cA, a0))]) → va_S A H0 H1 locs →
      W p l e R s m args below meth c H1 locs (cells + 1) (slots + N') Q (F0 m (pc + 2) ls (.ref q :: rest))) : W p l e R s m args below meth c H locs cells slots Q (F0 m pc ls (.int n :: rest)) :=
  va_newa hexec hb harr hty hK hP hD hS hA ha hn hN hbytes hcells hslots hdg (fun q c1 H1 hK1 hP1 hD1 hS1 => by
    have h1 := (hK1.2 tys.length (c1, ty) (by simp)).2
    have h2 := (hK.2 t0 _ ht).2
    have e : c1 = cA := Option.some.inj ((hra _ h1).symm.trans (hra _ h2))
    subst e
    exact kk q H1 hP1 hD1 hS1)
theorem xa_newq (hexec : p.tables.exec = Jvm.exec) (hb : c.code = cc) {own C : String} {index : Nat} (hown : s.vm.findClass own = some m.cls) (hclink : (Cond.classLink own index C).before args s = true) (hover : va_AO C s) (hK : va_K D cl tys s) (t0 : Nat) {cA : ClassId} (ht : tys[t0]? = some (cA, .object C)) (hP : va_P D cl ws H) (hD : va_D A ws) (hS : va_S A H0 H locs) (hA : ∀ q, H0.size ≤ q → A q)
    {n : Int32} {N' : Nat} (hn : ¬ n < 0) (hN : n.toNatClampNeg = N') (hbytes : N' * 4 ≤ 536870912) (hcells : cells + 1 ≤ R.cells) (hslots : slots + N' ≤ R.slots) (hdg : decode cc pc = .ok (.anewarray index, 3))
    (kk : ∀ (q : Nat) (H1 : Heap), va_P D cl (ws ++ [(q, .inl (cA, N', .inr (.inr (.inr (.inr (fun _ => none))))))]) H1 → va_D A (ws ++ [(q, .inl (cA, N', .inr (.inr (.inr (.inr (fun _ => none))))))]) → va_S A H0 H1 locs →
      W p l e R s m args below meth c H1 locs (cells + 1) (slots + N') Q (F0 m (pc + 3) ls (.ref q :: rest))) : W p l e R s m args below meth c H locs cells slots Q (F0 m pc ls (.int n :: rest)) :=
  va_newq hexec hb hown hclink hover hK hP hD hS hA hn hN hbytes hcells hslots hdg (fun q c1 H1 hK1 hP1 hD1 hS1 => by
    obtain ⟨-, -, -, -, -, h1⟩ := (hK1.2 tys.length (c1, .object C) (by simp)).2
    obtain ⟨-, -, -, -, -, h2⟩ := (hK.2 t0 _ ht).2
    have e : c1 = cA := Option.some.inj (h1.symm.trans h2)
    subst e
    exact kk q H1 hP1 hD1 hS1)
theorem xr_i {S : Type} {post : Int32 → S → Prop} {Wd : S → va_W} {v : Int32} (u : S) (hexec : p.tables.exec = Jvm.exec) (hb : c.code = cc) (hr : meth.sig.returnType = some .int) (hlocks : meth.locks = false) (hpost : post v u) (hP : va_P D vwCl (Wd u) H) (hD : va_D A (Wd u)) (hS : va_S A s.heap H locs) (hdg : decode cc pc = .ok (.ireturn, 1)) : W p l e R s m args below meth c H locs cells slots (MQ below (va_Qi post (xB D Wd A) A) args s cells slots A) (F0 m pc ls [.int v]) :=
  W.iret hexec hb hr (fun t ht hW => ⟨⟨v, u, rfl, hpost, by rw [ht]; exact hP, hD⟩, hS.F ht⟩) hS.2.2 hdg hlocks
theorem xr_z {S : Type} {post : Int32 → S → Prop} {Wd : S → va_W} {v : Int32} {ty : FieldType} (u : S) (hexec : p.tables.exec = Jvm.exec) (hb : c.code = cc) (hr : meth.sig.returnType = some ty) (hn : narrow ty (.int v) = .int v) (hlocks : meth.locks = false) (hpost : post v u) (hP : va_P D vwCl (Wd u) H) (hD : va_D A (Wd u)) (hS : va_S A s.heap H locs) (hdg : decode cc pc = .ok (.ireturn, 1)) : W p l e R s m args below meth c H locs cells slots (MQ below (va_Qi post (xB D Wd A) A) args s cells slots A) (F0 m pc ls [.int v]) :=
  W.zret hexec hb hr hn (fun t ht hW => ⟨⟨v, u, rfl, hpost, by rw [ht]; exact hP, hD⟩, hS.F ht⟩) hS.2.2 hdg hlocks
theorem xr_l {S : Type} {post : Int64 → S → Prop} {Wd : S → va_W} {v : Int64} (u : S) (hexec : p.tables.exec = Jvm.exec) (hb : c.code = cc) (hr : meth.sig.returnType = some .long) (hlocks : meth.locks = false) (hpost : post v u) (hP : va_P D vwCl (Wd u) H) (hD : va_D A (Wd u)) (hS : va_S A s.heap H locs) (hdg : decode cc pc = .ok (.lreturn, 1)) : W p l e R s m args below meth c H locs cells slots (MQ below (va_Ql post (xB D Wd A) A) args s cells slots A) (F0 m pc ls [.long v]) :=
  W.lret hexec hb hr (fun t ht hW => ⟨⟨v, u, rfl, hpost, by rw [ht]; exact hP, hD⟩, hS.F ht⟩) hS.2.2 hdg hlocks
theorem xr_v {S : Type} {post : S → Prop} {Wd : S → va_W} (u : S) (hexec : p.tables.exec = Jvm.exec) (hb : c.code = cc) (hr : meth.sig.returnType = none) (hlocks : meth.locks = false) (hpost : post u) (hP : va_P D vwCl (Wd u) H) (hD : va_D A (Wd u)) (hS : va_S A s.heap H locs) (hdg : decode cc pc = .ok (.return_, 1)) : W p l e R s m args below meth c H locs cells slots (MQ below (va_Qv post (xB D Wd A) A) args s cells slots A) (F0 m pc ls []) :=
  W.vret hexec hb hr (fun t ht hW => ⟨⟨u, rfl, hpost, by rw [ht]; exact hP, hD⟩, hS.F ht⟩) hS.2.2 hdg hlocks
theorem xr_q {S : Type} {post : Option Nat → S → Prop} {Wd : S → va_W} {rt : FieldType} (r : Option Nat) (u : S) (hexec : p.tables.exec = Jvm.exec) (hb : c.code = cc) (hr : meth.sig.returnType = some rt) (hrt : (∃ n, rt = .object n) ∨ ∃ t, rt = .array t) (hlocks : meth.locks = false) (hpost : post r u) (hP : va_P D vwCl (Wd u) H) (hD : va_D A (Wd u)) (hS : va_S A s.heap H locs) (hdg : decode cc pc = .ok (.areturn, 1)) : W p l e R s m args below meth c H locs cells slots (MQ below (va_Qq post (xB D Wd A) A) args s cells slots A) (F0 m pc ls [va_rf r]) :=
  W.aret hexec hb hr hrt (by cases r <;> simp [va_rf]) (fun t ht hW => ⟨⟨r, u, rfl, hpost, by rw [ht]; exact hP, hD⟩, hS.F ht⟩) hS.2.2 hdg hlocks
variable {st0 : List Value} {mc ms : Nat} {wc wr : va_W} {av : Array Value}
theorem xc_v {S : Type} {post : S → Prop} {Wd : S → va_W} (hr : va_Run p l e R s m args below meth c H locs cells slots mc ms (F0 m pc ls st0) rest (va_Qv post (xB D Wd (va_A wc H.size)) (va_A wc H.size) av) (va_A wc H.size)) (hP : va_P D vwCl ws H) (hD : va_D A ws) (hS : va_S A H0 H locs) (hA : ∀ q, H0.size ≤ q → A q) (isC isR : List Nat) (hC : isC.map (fun i => ws[i]?) = wc.map some) (hR : isR.map (fun i => ws[i]?) = wr.map some) (hn : va_nd isR = true) (hdis : ∀ i ∈ isR, i ∉ isC)
    (kk : ∀ (u : S) (H1 : Heap) (locs1 : List Loc), post u → va_P D vwCl (wr ++ Wd u) H1 → va_D A (wr ++ Wd u) → va_S A H0 H1 locs1 → W p l e R s m args below meth c H1 locs1 (cells + mc) (slots + ms) Q (F0 m (pc + 3) ls rest)) : W p l e R s m args below meth c H locs cells slots Q (F0 m pc ls st0) := by
  have hF := va_free hD hS hA isC hC
  refine va_callv hr hS (fun q _ h => hF q h) hF (fun u t H1 locs1 ht _ hw hB _ hk1 hS1 => ?_)
  obtain ⟨hP1, hD1⟩ := hB
  rw [ht] at hP1
  obtain ⟨hP2, hD2⟩ := va_join hP hD isC isR hC hR hn hdis hk1 hF hP1 hD1
  exact kk u H1 locs1 hw hP2 hD2 hS1
theorem xc_i {S : Type} {post : Int32 → S → Prop} {Wd : S → va_W} (hr : va_Run p l e R s m args below meth c H locs cells slots mc ms (F0 m pc ls st0) rest (va_Qi post (xB D Wd (va_A wc H.size)) (va_A wc H.size) av) (va_A wc H.size)) (hP : va_P D vwCl ws H) (hD : va_D A ws) (hS : va_S A H0 H locs) (hA : ∀ q, H0.size ≤ q → A q) (isC isR : List Nat) (hC : isC.map (fun i => ws[i]?) = wc.map some) (hR : isR.map (fun i => ws[i]?) = wr.map some) (hn : va_nd isR = true) (hdis : ∀ i ∈ isR, i ∉ isC)
    (kk : ∀ (r : Int32) (u : S) (H1 : Heap) (locs1 : List Loc), post r u → va_P D vwCl (wr ++ Wd u) H1 → va_D A (wr ++ Wd u) → va_S A H0 H1 locs1 → W p l e R s m args below meth c H1 locs1 (cells + mc) (slots + ms) Q (F0 m (pc + 3) ls (.int r :: rest))) : W p l e R s m args below meth c H locs cells slots Q (F0 m pc ls st0) := by
  have hF := va_free hD hS hA isC hC
  refine va_calli hr hS (fun q _ h => hF q h) hF (fun r u t H1 locs1 ht _ hw hB _ hk1 hS1 => ?_)
  obtain ⟨hP1, hD1⟩ := hB
  rw [ht] at hP1
  obtain ⟨hP2, hD2⟩ := va_join hP hD isC isR hC hR hn hdis hk1 hF hP1 hD1
  exact kk r u H1 locs1 hw hP2 hD2 hS1
theorem xc_l {S : Type} {post : Int64 → S → Prop} {Wd : S → va_W} (hr : va_Run p l e R s m args below meth c H locs cells slots mc ms (F0 m pc ls st0) rest (va_Ql post (xB D Wd (va_A wc H.size)) (va_A wc H.size) av) (va_A wc H.size)) (hP : va_P D vwCl ws H) (hD : va_D A ws) (hS : va_S A H0 H locs) (hA : ∀ q, H0.size ≤ q → A q) (isC isR : List Nat) (hC : isC.map (fun i => ws[i]?) = wc.map some) (hR : isR.map (fun i => ws[i]?) = wr.map some) (hn : va_nd isR = true) (hdis : ∀ i ∈ isR, i ∉ isC)
    (kk : ∀ (r : Int64) (u : S) (H1 : Heap) (locs1 : List Loc), post r u → va_P D vwCl (wr ++ Wd u) H1 → va_D A (wr ++ Wd u) → va_S A H0 H1 locs1 → W p l e R s m args below meth c H1 locs1 (cells + mc) (slots + ms) Q (F0 m (pc + 3) ls (.long r :: rest))) : W p l e R s m args below meth c H locs cells slots Q (F0 m pc ls st0) := by
  have hF := va_free hD hS hA isC hC
  refine va_calll hr hS (fun q _ h => hF q h) hF (fun r u t H1 locs1 ht _ hw hB _ hk1 hS1 => ?_)
  obtain ⟨hP1, hD1⟩ := hB
  rw [ht] at hP1
  obtain ⟨hP2, hD2⟩ := va_join hP hD isC isR hC hR hn hdis hk1 hF hP1 hD1
  exact kk r u H1 locs1 hw hP2 hD2 hS1
theorem xc_q {S : Type} {post : Option Nat → S → Prop} {Wd : S → va_W} (hr : va_Run p l e R s m args below meth c H locs cells slots mc ms (F0 m pc ls st0) rest (va_Qq post (xB D Wd (va_A wc H.size)) (va_A wc H.size) av) (va_A wc H.size)) (hP : va_P D vwCl ws H) (hD : va_D A ws) (hS : va_S A H0 H locs) (hA : ∀ q, H0.size ≤ q → A q) (isC isR : List Nat) (hC : isC.map (fun i => ws[i]?) = wc.map some) (hR : isR.map (fun i => ws[i]?) = wr.map some) (hn : va_nd isR = true) (hdis : ∀ i ∈ isR, i ∉ isC)
    (kk : ∀ (r : Option Nat) (u : S) (H1 : Heap) (locs1 : List Loc), post r u → va_P D vwCl (wr ++ Wd u) H1 → va_D A (wr ++ Wd u) → va_S A H0 H1 locs1 → W p l e R s m args below meth c H1 locs1 (cells + mc) (slots + ms) Q (F0 m (pc + 3) ls (va_rf r :: rest))) : W p l e R s m args below meth c H locs cells slots Q (F0 m pc ls st0) := by
  have hF := va_free hD hS hA isC hC
  refine va_callq hr hS (fun q _ h => hF q h) hF (fun r u t H1 locs1 ht _ hw hB _ hk1 hS1 => ?_)
  obtain ⟨hP1, hD1⟩ := hB
  rw [ht] at hP1
  obtain ⟨hP2, hD2⟩ := va_join hP hD isC isR hC hR hn hdis hk1 hF hP1 hD1
  exact kk r u H1 locs1 hw hP2 hD2 hS1
theorem xd_v {S : Type} {post : S → Prop} {Wd : S → va_W} {X B : va_W} (hr : va_Run p l e R s m args below meth c H locs cells slots mc ms (F0 m pc ls st0) rest (va_Qv post (xB D Wd (va_A wc H.size)) (va_A wc H.size) av) (va_A wc H.size)) (hP : va_P D vwCl (X ++ B) H) (hD : va_D A (X ++ B)) (hS : va_S A H0 H locs) (hA : ∀ q, H0.size ≤ q → A q) (isC isR : List Nat) (hC : isC.map (fun i => X[i]?) = wc.map some) (hR : isR.map (fun i => X[i]?) = wr.map some) (hn : va_nd isR = true) (hdis : ∀ i ∈ isR, i ∉ isC)
    (kk : ∀ (u : S) (H1 : Heap) (locs1 : List Loc), post u → va_P D vwCl (wr ++ (Wd u ++ B)) H1 → va_D A (wr ++ (Wd u ++ B)) → va_S A H0 H1 locs1 → W p l e R s m args below meth c H1 locs1 (cells + mc) (slots + ms) Q (F0 m (pc + 3) ls rest)) : W p l e R s m args below meth c H locs cells slots Q (F0 m pc ls st0) := by
  have hC' : isC.map (fun i => (X ++ B)[i]?) = wc.map some := by
    rw [← hC]
    refine List.map_congr_left fun i hi => ?_
    have hm : X[i]? ∈ isC.map (fun i => X[i]?) := List.mem_map.mpr ⟨i, hi, rfl⟩
    rw [hC] at hm
    obtain ⟨y, -, hy⟩ := List.mem_map.mp hm
    rw [List.getElem?_append_left (List.getElem?_eq_some_iff.mp hy.symm).1]
  have hF := va_free hD hS hA isC hC'
  refine va_callv hr hS (fun q _ h => hF q h) hF (fun u t H1 locs1 ht _ hw hB _ hk1 hS1 => ?_)
  obtain ⟨hP1, hD1⟩ := hB
  rw [ht] at hP1
  obtain ⟨hP2, hD2⟩ := va_joinQ hP hD isC isR hC hR hn hdis hk1 hF hP1 hD1
  rw [List.append_assoc] at hP2 hD2
  exact kk u H1 locs1 hw hP2 hD2 hS1
end XO
