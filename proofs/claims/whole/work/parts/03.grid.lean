/-! new T[n][k]: the outer row a place of the world, the inner ones a block behind it -/
def xrows (r : Nat → Nat) (N : Nat) (f : Nat → va_E) : va_W := (List.range N).map (fun i => (r i, f i))
theorem xk_i {p : Program} {l : Launch} {e : Env} {R : Room} {s : State} {m : MethodId} {args : Array Value} {below : List Frame} {meth : Method} {c : Code} {H : Heap} {locs : List Loc} {cells slots : Nat} {Q : State → Prop} {pc : Nat} {ls : Array Slot} {rest : List Value} {x v : Int32} (h : x = v) (k : W p l e R s m args below meth c H locs cells slots Q (F0 m pc ls (.int v :: rest))) : W p l e R s m args below meth c H locs cells slots Q (F0 m pc ls (.int x :: rest)) := by subst h; exact k
def xg_o (c : ClassId) (N h0 i : Nat) : Cell := arrV c N (fun j => va_rf (if j < i then some (h0 + 1 + j) else none))
def xg_s (T : State) (c comp : ClassId) (N M : Nat) (dv : Value) : Nat → State
  | 0 => T.pushCell (xg_o c N T.heap.size 0)
  | i + 1 => ((xg_s T c comp N M dv i).pushCell (arrV comp M (fun _ => dv))).setCell T.heap.size (xg_o c N T.heap.size (i + 1))
theorem xg_next (c : ClassId) (N h0 i : Nat) : (xg_o c N h0 i).setSlot i (.ref (h0 + 1 + i)) = xg_o c N h0 (i + 1) := by
  unfold xg_o
  rw [arrV_store]
  refine congrArg (arrV c N) (funext fun j => ?_)
  by_cases q : j = i
  · subst q; simp [updV, va_rf]
  · by_cases h : j < i
    · simp [updV, q, h, Nat.lt_succ_of_lt h]
    · simp [updV, q, h, show ¬ j < i + 1 by omega]
theorem xg_facts (T : State) (c comp : ClassId) (N M : Nat) (dv : Value) : ∀ i, (xg_s T c comp N M dv i).heap.size = T.heap.size + 1 + i ∧ (xg_s T c comp N M dv i).heap[T.heap.size]? = some (xg_o c N T.heap.size i) ∧ (xg_s T c comp N M dv i).vm = T.vm ∧ (xg_s T c comp N M dv i).slotsUsed = T.slotsUsed + N + i * M
  | 0 => ⟨by simp [xg_s], by simp [xg_s], rfl, by simp [xg_s, xg_o, arrV_size]⟩
  | i + 1 => by
    obtain ⟨f1, f2, f3, f4⟩ := xg_facts T c comp N M dv i
    have hlt : T.heap.size < (xg_s T c comp N M dv i).heap.size := by omega
    have h2 : ((xg_s T c comp N M dv i).pushCell (arrV comp M (fun _ => dv))).heap[T.heap.size]? = some (xg_o c N T.heap.size i) := by
      rw [State.heap_pushCell_of_lt (h := hlt)]; exact f2
    refine ⟨?_, State.heap_setCell_self h2, by simp [xg_s, f3], ?_⟩
    · simp [xg_s, State.setCell, f1]; omega
    · simp [xg_s, f4, arrV_size, Nat.succ_mul]; omega
theorem xg_top (T : State) (f : JFrame) (c comp : ClassId) (N M : Nat) (dv : Value) : ∀ i, xg_s (T.setTop f) c comp N M dv i = (xg_s T c comp N M dv i).setTop f
  | 0 => rfl
  | i + 1 => by simp only [xg_s, xg_top T f c comp N M dv i, State.heap_setTop, State.pushCell_setTop, State.setCell_setTop]
theorem xg_old (T : State) (c comp : ClassId) (N M : Nat) (dv : Value) {a : Addr} (ha : a < T.heap.size) : ∀ i, (xg_s T c comp N M dv i).heap[a]? = T.heap[a]?
  | 0 => State.heap_pushCell_of_lt _ _ ha
  | i + 1 => by
    have f1 := (xg_facts T c comp N M dv i).1
    have hlt : a < (xg_s T c comp N M dv i).heap.size := by omega
    show (((xg_s T c comp N M dv i).pushCell (arrV comp M (fun _ => dv))).setCell T.heap.size _).heap[a]? = _
    rw [State.heap_setCell_other (Nat.ne_of_gt ha), State.heap_pushCell_of_lt (h := hlt)]
    exact xg_old T c comp N M dv ha i
theorem xg_row (T : State) (c comp : ClassId) (N M : Nat) (dv : Value) : ∀ i j, j < i → (xg_s T c comp N M dv i).heap[T.heap.size + 1 + j]? = some (arrV comp M (fun _ => dv))
  | 0, _, h => absurd h (Nat.not_lt_zero _)
  | i + 1, j, h => by
    have f1 := (xg_facts T c comp N M dv i).1
    show (((xg_s T c comp N M dv i).pushCell (arrV comp M (fun _ => dv))).setCell T.heap.size _).heap[T.heap.size + 1 + j]? = _
    rw [State.heap_setCell_other (show T.heap.size ≠ T.heap.size + 1 + j by omega)]
    rcases Nat.lt_or_ge j i with hj | hj
    · have hlt : T.heap.size + 1 + j < (xg_s T c comp N M dv i).heap.size := by omega
      rw [State.heap_pushCell_of_lt (h := hlt)]
      exact xg_row T c comp N M dv i j hj
    · have q : j = i := by omega
      subst q
      rw [← f1]
      exact State.heap_pushCell_size _ _
theorem xg_new {E : CtlPost} {e : Env} {d : Bool} {acts : List Action} {s : State} {c comp : ClassId} {k : Class} {type : FieldType} {len : Nat} {init : Value} (hk : s.vm.classes[c]? = some k) (hkind : k.kind = .array comp type)
    (hlimit : ¬ len > e.platform.arrayLengthLimit) (hheap : ¬ len * componentBytes type > e.platform.maxHeapBytes) (hfit : fits type init = true) (hdef : init.isDefault = true) {Q : Addr → Pre}
    (h1 : s.heap.size < e.platform.maxCells) (h2 : s.slotsUsed + len ≤ e.platform.maxSlots) (hq : Q s.heap.size d acts (s.pushCell (arrV c len (fun _ => init)))) : wp (Jvm.newArray c len init) Q E e d acts s := by
  have hfits : ∀ i v, (Array.replicate len init)[i]? = some v → s.fitsSlot c .none i v = true := by
    intro i v hv
    simp only [Array.getElem?_replicate] at hv
    split at hv
    · cases hv; simp [State.fitsSlot, State.slotType?, hk, hkind, hfit]
    · cases hv
  have hall : ((Array.replicate len init).all (·.isDefault)) = true := by
    rw [Array.all_replicate]; split <;> simp [hdef]
  have hda : allocActs (Array.replicate len init) s.heap.size acts = acts := by unfold allocActs; rw [if_pos hall]
  simp only [Jvm.newArray, Jvm.arrayFits, wp_bind', W.ask, W.ite, hlimit, if_false, wp_pure', W.theClass, hk, hkind, hheap, W.alloc, W.stop, Option.some.injEq, exists_eq_left', Array.size_replicate, hda]
  rw [if_neg (by omega)]
  rw [← arrV_new] at hq
  exact ⟨h1, h2, hfits, hq⟩
theorem xg_make {E : CtlPost} {e : Env} {d : Bool} {acts : List Action} {s : State} {c comp cc : ClassId} {k kc : Class} {ty : FieldType} {n m : Int32} (hk : s.vm.classes[c]? = some k) (hkind : k.kind = .array comp (.array ty))
    (hkc : s.vm.classes[comp]? = some kc) (hkindc : kc.kind = .array cc ty) (hn : ¬ n < 0) (hm : ¬ m < 0)
    (hl1 : ¬ n.toNatClampNeg > e.platform.arrayLengthLimit) (hh1 : ¬ n.toNatClampNeg * componentBytes (.array ty) > e.platform.maxHeapBytes)
    (hl2 : ¬ m.toNatClampNeg > e.platform.arrayLengthLimit) (hh2 : ¬ m.toNatClampNeg * componentBytes ty > e.platform.maxHeapBytes)
    (hdf : fits ty (defaultValue ty) = true) (hdd : (defaultValue ty).isDefault = true)
    (hc : s.heap.size + 1 + n.toNatClampNeg ≤ e.platform.maxCells) (hs : s.slotsUsed + n.toNatClampNeg + n.toNatClampNeg * m.toNatClampNeg ≤ e.platform.maxSlots)
    {Q : Addr → Pre} (hq : ∀ d' acts', Q s.heap.size d' acts' (xg_s s c comp n.toNatClampNeg m.toNatClampNeg (defaultValue ty) n.toNatClampNeg)) : wp (multianewarray.make c [n, m]) Q E e d acts s := by
  have hfind : ([m].find? (· < 0)) = none := by simp [hm]
  rw [multianewarray.make]
  simp only [wp_bind', W.ite, hn, if_false, wp_pure', W.theClass, hk, hkind, Option.some.injEq, exists_eq_left']
  refine xg_new hk hkind hl1 hh1 rfl rfl (by omega) (by have := Nat.zero_le (n.toNatClampNeg * m.toNatClampNeg); omega) ?_
  simp only [hfind]
  rw [ite_self, wp_bind', Std.Legacy.Range.forIn_eq_forIn_range']
  have hsz : ([:n.toNatClampNeg] : Std.Legacy.Range).size = n.toNatClampNeg := by simp [Std.Legacy.Range.size]
  rw [hsz]
  show wp (forIn (List.range' 0 n.toNatClampNeg 1) PUnit.unit _) _ E e d acts _
  refine wp_forIn_inv (fun rest s' => ∃ i, i ≤ n.toNatClampNeg ∧ rest = List.range' i (n.toNatClampNeg - i) ∧ s' = xg_s s c comp n.toNatClampNeg m.toNatClampNeg (defaultValue ty) i) _ _ ⟨0, Nat.zero_le _, rfl, rfl⟩ ?_ ?_
  · rintro x rest s' d' acts' Q' ⟨i, hi, hl, rfl⟩ hnext
    have hlt : i < n.toNatClampNeg := by
      rcases Nat.lt_or_ge i n.toNatClampNeg with h | h
      · exact h
      · rw [show n.toNatClampNeg - i = 0 from by omega] at hl; simp at hl
    obtain ⟨rfl, hrest⟩ : x = i ∧ rest = List.range' (i + 1) (n.toNatClampNeg - (i + 1)) := by
      rw [show n.toNatClampNeg - i = (n.toNatClampNeg - (i + 1)) + 1 from by omega, List.range'_succ] at hl
      exact ⟨(List.cons.inj hl).1, (List.cons.inj hl).2⟩
    obtain ⟨f1, f2, f3, f4⟩ := xg_facts s c comp n.toNatClampNeg m.toNatClampNeg (defaultValue ty) x
    have hmul : x * m.toNatClampNeg + m.toNatClampNeg ≤ n.toNatClampNeg * m.toNatClampNeg := by
      have := Nat.mul_le_mul_right m.toNatClampNeg (show x + 1 ≤ n.toNatClampNeg from hlt)
      rw [Nat.succ_mul] at this; exact this
    simp only [wp_bind']
    rw [multianewarray.make]
    simp only [wp_bind', W.ite, hm, if_false, wp_pure', W.theClass, f3, hkc, hkindc, Option.some.injEq, exists_eq_left']
    refine xg_new (by rw [f3]; exact hkc) hkindc hl2 hh2 hdf hdd (by rw [f1]; omega) (by rw [f4]; omega) ?_
    have hlt0 : s.heap.size < (xg_s s c comp n.toNatClampNeg m.toNatClampNeg (defaultValue ty) x).heap.size := by rw [f1]; omega
    simp only [wp_bind', W.writeLoc, wp_pure']
    refine ⟨xg_o c n.toNatClampNeg s.heap.size x, by rw [State.heap_pushCell_of_lt (h := hlt0)]; exact f2, by simp [xg_o, arrV], by simp only [xg_o, arrV_size]; exact hlt, ?_, hnext _ _ _ ⟨x + 1, hlt, hrest, ?_⟩⟩
    · simp [State.fitsSlot, State.slotType?, f3, hk, hkind, xg_o, arrV, fits]
    · rw [f1, xg_next]; rfl
  · rintro s' d' acts' ⟨i, hi, hl, rfl⟩
    have hiN : i = n.toNatClampNeg := by
      rcases Nat.lt_or_ge i n.toNatClampNeg with h | h
      · rw [show n.toNatClampNeg - i = (n.toNatClampNeg - (i + 1)) + 1 from by omega, List.range'_succ] at hl; cases hl
      · omega
    subst hiN
    simp only [wp_pure']
    exact hq _ _
section XG
variable {p : Program} {l : Launch} {e : Env} {R : Room} {s : State} {m : MethodId} {args : Array Value} {below : List Frame} {meth : Method} {c : Code} {T : State} {H : Heap} {locs : List Loc} {cells slots : Nat} {Q : State → Prop}
variable {cc : ByteArray} {pc : Nat} {ls : Array Slot} {rest : List Value} {D : va_G} {cl : List vw_C} {A : Nat → Prop} {a : Nat} {tys : List (ClassId × FieldType)} {ws : va_W} {H0 : Heap}
theorem xg_stand (X : Stand p l e R s m args below meth c T locs cells slots) (cA comp : ClassId) (N M : Nat) (dv : Value) :
    ∀ i, Stand p l e R s m args below meth c (xg_s T cA comp N M dv i) (locs ++ (List.range i).map fun j => ⟨T.heap.size, j⟩) (cells + 1 + i) (slots + N + i * M)
  | 0 => by
    have h := X.pushed (xg_o cA N T.heap.size 0)
    rw [show (xg_o cA N T.heap.size 0).slots.size = N from arrV_size _ _ _] at h
    simpa [xg_s] using h
  | i + 1 => by
    have Xi := xg_stand X cA comp N M dv i
    obtain ⟨f1, f2, f3, f4⟩ := xg_facts T cA comp N M dv i
    have hlt0 : T.heap.size < (xg_s T cA comp N M dv i).heap.size := by rw [f1]; omega
    have hcell : ((xg_s T cA comp N M dv i).pushCell (arrV comp M (fun _ => dv))).heap[T.heap.size]? = some (xg_o cA N T.heap.size i) := by
      rw [State.heap_pushCell_of_lt (h := hlt0)]; exact f2
    have h := (Xi.pushed (arrV comp M (fun _ => dv))).stored hcell i (.ref (T.heap.size + 1 + i))
    rw [arrV_size, xg_next] at h
    have e2 : (locs ++ (List.range (i + 1)).map fun j => (⟨T.heap.size, j⟩ : Loc)) = (locs ++ (List.range i).map fun j => (⟨T.heap.size, j⟩ : Loc)) ++ [⟨T.heap.size, i⟩] := by simp [List.range_succ, List.append_assoc]
    have e3 : slots + N + (i + 1) * M = slots + N + i * M + M := by rw [Nat.succ_mul]; omega
    rw [e2, e3]
    exact h
theorem xg_step (X : Stand p l e R s m args below meth c T locs cells slots) (hexec : p.tables.exec = Jvm.exec) {own : String} {index : Nat} {ty : FieldType}
    (hown : s.vm.findClass own = some m.cls) (hclink : (Cond.classLink own index ("[" ++ (FieldType.array ty).toString)).before args s = true) (hover : xAOA ty s) (harr : (Cond.arrayClass ty).before args s = true)
    {g : JFrame} (hg : g.method = m) (hdg : decode c.code g.pc = .ok (.multianewarray index 2, 4)) {n k : Int32} {rest : List Value} (hstack : g.stack = .int k :: .int n :: rest)
    (hn : ¬ n < 0) (hk : ¬ k < 0) (hb1 : n.toNatClampNeg * 4 ≤ 536870912) (hb2 : k.toNatClampNeg * componentBytes ty ≤ 536870912) (hb3 : k.toNatClampNeg ≤ 536870912)
    (hdf : fits ty (defaultValue ty) = true) (hdd : (defaultValue ty).isDefault = true)
    (hcells : cells + (1 + n.toNatClampNeg) ≤ R.cells) (hslots : slots + (n.toNatClampNeg + n.toNatClampNeg * k.toNatClampNeg) ≤ R.slots) :
    ∃ (vm₁ : Vm) (cA comp : ClassId), s.vm.findClass ("[" ++ (FieldType.array ty).toString) = some cA ∧ s.vm.findClass ("[" ++ ty.toString) = some comp ∧
      Stand p l e R s m args below meth c (xg_s (T.setVm vm₁) cA comp n.toNatClampNeg k.toNatClampNeg (defaultValue ty) n.toNatClampNeg) locs (cells + 1 + n.toNatClampNeg) (slots + n.toNatClampNeg + n.toNatClampNeg * k.toNatClampNeg) ∧
      ∀ target, Steps p.tables e below ((xg_s (T.setVm vm₁) cA comp n.toNatClampNeg k.toNatClampNeg (defaultValue ty) n.toNatClampNeg).setTop { g with pc := g.pc + 4, stack := .ref T.heap.size :: rest }) target →
        Steps p.tables e below (T.setTop g) target := by
  subst hg
  have hpl : e.platform.magicAccessors = ({} : Platform).magicAccessors := by rw [X.admits.platform]
  obtain ⟨comp, cA, kA, hcomp, -, hkA, hkindA, hnameA⟩ := xAO_specA hover
  obtain ⟨comp', kC, cc, hcomp', hkC, hkindC⟩ := Cond.arrayClass_spec harr
  have ecomp : comp' = comp := Option.some.inj (hcomp'.symm.trans hcomp)
  subst ecomp
  obtain ⟨c0, hfc0, hcl⟩ := Cond.classLink_spec hown hclink e.platform hpl
  cases hnameA.symm.trans hfc0
  obtain ⟨hg₁, hwarm₁, hready₁⟩ := State.classEntry (e := e) X.warmed hcl
  generalize T.vm.noted g.method.cls index (.cls cA) = vm₁ at hg₁ hwarm₁ hready₁
  have hal : s.vm.Alike vm₁ := hwarm₁.alike
  obtain ⟨kA₁, hkA₁, heA⟩ := hal.2.2 _ _ hkA
  obtain ⟨kC₁, hkC₁, heC⟩ := hal.2.2 _ _ hkC
  have hkindA₁ : kA₁.kind = .array comp' (.array ty) := by rw [heA]; exact hkindA
  have hkindC₁ : kC₁.kind = .array cc ty := by rw [heC]; exact hkindC
  have X₁ := X.noted hwarm₁
  obtain ⟨hr1, hr2⟩ := X.roomAbove hcells hslots
  have XF := xg_stand X₁ cA comp' n.toNatClampNeg k.toNatClampNeg (defaultValue ty) n.toNatClampNeg
  refine ⟨vm₁, cA, comp', hnameA, hcomp, XF.dropFresh (fun x hx => ?_), fun target hrest => ?_⟩
  · obtain ⟨j, -, rfl⟩ := List.mem_map.mp hx
    exact X.heapGrown
  have hl1 : ¬ n.toNatClampNeg > e.platform.arrayLengthLimit := by rw [Launch.admits_arrayLengthLimit X.admits]; omega
  have hh1 : ¬ n.toNatClampNeg * componentBytes (.array ty) > e.platform.maxHeapBytes := by
    rw [Launch.admits_maxHeapBytes X.admits]; show ¬ n.toNatClampNeg * 4 > 536870912; omega
  have hl2 : ¬ k.toNatClampNeg > e.platform.arrayLengthLimit := by rw [Launch.admits_arrayLengthLimit X.admits]; omega
  have hh2 : ¬ k.toNatClampNeg * componentBytes ty > e.platform.maxHeapBytes := by rw [Launch.admits_maxHeapBytes X.admits]; omega
  jvm_step X.here [hexec, hdg]
  simp only [multianewarray.sem, wp_bind', W.resolveClassAt_links (State.method?_setTop g X.here.top) hg₁]
  rw [W.popN, if_neg (by decide)]
  refine ⟨g, State.topJava?_setTop' (s := T.setVm vm₁) g X.here.top, [.int n, .int k], rest, rfl, hstack, ?_⟩
  simp only [List.mapM_cons, List.mapM_nil, wp_bind', wp_pure']
  refine xg_make (k := kA₁) (kc := kC₁) (comp := comp') (cc := cc) (ty := ty) hkA₁ hkindA₁ hkC₁ hkindC₁ hn hk hl1 hh1 hl2 hh2 hdf hdd (by show T.heap.size + 1 + _ ≤ _; omega) (by show T.slotsUsed + _ + _ ≤ _; omega) (fun d' acts' => ?_)
  have eS : ((T.setTop g).setVm vm₁).setTop { g with stack := rest } = (T.setVm vm₁).setTop { g with stack := rest } := by
    show ((T.setVm vm₁).setTop g).setTop _ = _
    rw [State.setTop_setTop]
  rw [eS, xg_top]
  simp only [wp_bind', W.mark, W.pushRef, State.topJava?_setTop' _ XF.here.top, Option.some.injEq, exists_eq_left', State.setTop_setTop, State.heap_setTop]
  intro acts
  simp [jvm, XF.here.top]
  exact hrest
theorem xa_mna {X B : va_W} (hexec : p.tables.exec = Jvm.exec) (hb : c.code = cc) {own : String} {index : Nat} {ty : FieldType} {cA cI : ClassId} (hown : s.vm.findClass own = some m.cls) (hclink : (Cond.classLink own index ("[" ++ (FieldType.array ty).toString)).before args s = true) (hover : xAOA ty s) (harr : (Cond.arrayClass ty).before args s = true)
    (hK : va_K D cl tys s) (t0 t1 : Nat) (ht0 : tys[t0]? = some (cA, .array ty)) (ht1 : tys[t1]? = some (cI, ty)) (hra : ∀ c1 : ClassId, va_RA s c1 (.array ty) → s.vm.findClass ("[" ++ (FieldType.array ty).toString) = some c1) (hrb : ∀ c1 : ClassId, va_RA s c1 ty → s.vm.findClass ("[" ++ ty.toString) = some c1) (hP : va_P D cl (X ++ B) H) (hD : va_D A (X ++ B)) (hS : va_S A H0 H locs) (hA : ∀ q, H0.size ≤ q → A q) {n k : Int32} {N' K' : Nat} {z : vp_A} (hn : ¬ n < 0) (hk : ¬ k < 0) (hN : n.toNatClampNeg = N') (hM : k.toNatClampNeg = K')
    (hb1 : N' * 4 ≤ 536870912) (hb2 : K' * componentBytes ty ≤ 536870912) (hb3 : K' ≤ 536870912) (hdf : fits ty (defaultValue ty) = true) (hdd : (defaultValue ty).isDefault = true) (hcells : cells + (1 + N') ≤ R.cells) (hslots : slots + (N' + N' * K') ≤ R.slots) (hz : ∀ c : ClassId, arrV c K' (fun _ => defaultValue ty) = vp_cell c z) (hdg : decode cc pc = .ok (.multianewarray index 2, 4))
    (kk : ∀ (q : Nat) (r : Nat → Nat) (H1 : Heap), va_P D cl ((X ++ [(q, .inl (cA, N', .inr (.inr (.inr (.inr (fun i => if i < N' then some (r i) else none))))))]) ++ (xrows r N' (fun _ => .inl (cI, z)) ++ B)) H1 → va_D A ((X ++ [(q, .inl (cA, N', .inr (.inr (.inr (.inr (fun i => if i < N' then some (r i) else none))))))]) ++ (xrows r N' (fun _ => .inl (cI, z)) ++ B)) → va_S A H0 H1 locs →
      W p l e R s m args below meth c H1 locs (cells + 1 + N') (slots + N' + N' * K') Q (F0 m (pc + 4) ls (.ref q :: rest))) : W p l e R s m args below meth c H locs cells slots Q (F0 m pc ls (.int k :: .int n :: rest)) := by
  subst hN
  subst hM
  intro T hT Xs
  obtain ⟨vm₁, c1, c2, fA, fC, X', step⟩ := xg_step Xs hexec hown hclink hover harr (g := F0 m pc ls (.int k :: .int n :: rest)) rfl (by rw [hb]; exact hdg) rfl hn hk hb1 hb2 hb3 hdf hdd hcells hslots
  have e1 : c1 = cA := Option.some.inj (fA.symm.trans (hra _ (hK.2 t0 _ ht0).2))
  have e2 : c2 = cI := Option.some.inj (fC.symm.trans (hrb _ (hK.2 t1 _ ht1).2))
  subst e1 e2
  obtain ⟨f1, f2, f3, f4⟩ := xg_facts (T.setVm vm₁) c1 c2 n.toNatClampNeg k.toNatClampNeg (defaultValue ty) n.toNatClampNeg
  have hold : ∀ a, a < H.size → (xg_s (T.setVm vm₁) c1 c2 n.toNatClampNeg k.toNatClampNeg (defaultValue ty) n.toNatClampNeg).heap[a]? = H[a]? := fun a ha => by
    rw [xg_old (T.setVm vm₁) c1 c2 n.toNatClampNeg k.toNatClampNeg (defaultValue ty) (a := a) (by show a < T.heap.size; rw [hT]; exact ha)]
    show T.heap[a]? = _
    rw [hT]
  have hrow := xg_row (T.setVm vm₁) c1 c2 n.toNatClampNeg k.toNatClampNeg (defaultValue ty) n.toNatClampNeg
  have eT : (T.setVm vm₁).heap = H := hT
  rw [eT] at f1 f2 hrow
  generalize hF : xg_s (T.setVm vm₁) c1 c2 n.toNatClampNeg k.toNatClampNeg (defaultValue ty) n.toNatClampNeg = F at X' step f1 f2 hold hrow
  have hmem : ∀ q, q ∈ (X ++ [(H.size, (.inl (c1, n.toNatClampNeg, .inr (.inr (.inr (.inr (fun i => if i < n.toNatClampNeg then some (H.size + 1 + i) else none))))) : va_E))]) ++ (xrows (fun i => H.size + 1 + i) n.toNatClampNeg (fun _ => .inl (c2, z)) ++ B) → q ∈ X ++ B ∨ q = (H.size, (.inl (c1, n.toNatClampNeg, .inr (.inr (.inr (.inr (fun i => if i < n.toNatClampNeg then some (H.size + 1 + i) else none))))) : va_E)) ∨ ∃ i, i < n.toNatClampNeg ∧ q = (H.size + 1 + i, (.inl (c2, z) : va_E)) := by
    intro q hq
    simp only [List.mem_append, List.mem_singleton, xrows, List.mem_map, List.mem_range] at hq
    rcases hq with (h | h) | (⟨i, hi, h⟩ | h)
    · exact Or.inl (List.mem_append_left _ h)
    · exact Or.inr (Or.inl h)
    · exact Or.inr (Or.inr ⟨i, hi, h.symm⟩)
    · exact Or.inl (List.mem_append_right _ h)
  have hlt : ∀ q ∈ X ++ B, q.1 < H.size := fun q hq => by
    obtain ⟨i, hi⟩ := List.getElem?_of_mem hq
    exact (hP i q hi).lt
  obtain ⟨t, a1, b1⟩ := kk H.size (fun i => H.size + 1 + i) F.heap (fun i q hq => ?_) ?_ ?_ F rfl X'
  · refine ⟨t, step t ?_, b1⟩
    have e : T.heap.size = H.size := by rw [hT]
    rw [e]
    exact a1
  · rcases hmem q (List.mem_of_getElem? hq) with h | h | ⟨i, hi, h⟩
    · obtain ⟨j, hj⟩ := List.getElem?_of_mem h
      exact (hP j q hj).kept (hold _ (hlt q h))
    · subst h
      show F.heap[H.size]? = some (vp_cell _ _)
      rw [f2]
      simp only [xg_o, vp_cell]
      rfl
    · subst h
      show F.heap[H.size + 1 + i]? = some (vp_cell _ _)
      rw [hrow i hi, hz]
  · refine xD_of ?_ fun q hq => ?_
    · have h0 := xD_nd hD
      have hx : ∀ (l : List Nat), (∀ x ∈ l, x < H.size) → l.Nodup → (l ++ (H.size :: (List.range n.toNatClampNeg).map (fun i => H.size + 1 + i))).Nodup := by
        intro l hl hnd
        refine List.nodup_append.mpr ⟨hnd, List.nodup_cons.mpr ⟨?_, ?_⟩, ?_⟩
        · intro h
          obtain ⟨i, -, hi⟩ := List.mem_map.mp h
          omega
        · exact (List.nodup_range).map (fun a b h hab => h (by omega))
        · intro x hx1 y hy1 hxy
          subst hxy
          have := hl x hx1
          rcases List.mem_cons.mp hy1 with h | h
          · omega
          · obtain ⟨i, -, hi⟩ := List.mem_map.mp h
            omega
      have hp := hx ((X ++ B).map (·.1)) (fun x hx => by obtain ⟨q, hq, rfl⟩ := List.mem_map.mp hx; exact hlt q hq) h0
      refine (List.Perm.nodup_iff ?_).mp hp
      simp only [List.map_append, xrows, List.map_map, List.map_cons, List.map_nil, Function.comp_def, List.append_assoc]
      refine List.Perm.append_left _ ?_
      refine (List.perm_append_comm).trans ?_
      exact List.Perm.refl _
    · rcases hmem q hq with h | h | ⟨i, hi, h⟩
      · obtain ⟨j, hj⟩ := List.getElem?_of_mem h
        exact hD.2 j q hj
      · subst h
        exact hA _ hS.1
      · subst h
        exact hA _ (by have := hS.1; show H0.size ≤ H.size + 1 + i; omega)
  · refine ⟨by rw [f1]; have := hS.1; omega, fun q hq hn => ?_, hS.2.2⟩
    rw [hold q (by have := hS.1; omega)]
    exact hS.2.1 q hq hn
end XG
