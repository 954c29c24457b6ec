/-! four rows of sixty longs, made by one instruction -/
def k_row (cB : ClassId) : Cell := { cls := cB, slots := Array.replicate 60 (.long 0), vm := .none }
def k_out (cA : ClassId) (h : Nat) : Nat → Cell
  | 0 => { cls := cA, slots := Array.replicate 4 .null, vm := .none }
  | i + 1 => (k_out cA h i).setSlot i (.ref (h + 1 + i))
/-- i rows are made and stand in their places -/
def k_mst (s : State) (cA cB : ClassId) : Nat → State
  | 0 => s.pushCell (k_out cA s.heap.size 0)
  | i + 1 => ((k_mst s cA cB i).pushCell (k_row cB)).setCell s.heap.size (k_out cA s.heap.size (i + 1))
theorem k_out_f (cA : ClassId) (h : Nat) : ∀ i, (k_out cA h i).cls = cA ∧ (k_out cA h i).vm = .none ∧ (k_out cA h i).slots.size = 4
  | 0 => ⟨rfl, rfl, by simp [k_out]⟩
  | i + 1 => by
    have ih := k_out_f cA h i
    simp only [k_out, Cell.setSlot]
    exact ⟨ih.1, ih.2.1, by simp [ih.2.2]⟩
theorem k_out4 (cA : ClassId) (h : Nat) : k_out cA h 4 = arrV cA 4 (fun j => .ref (h + 1 + j)) := by
  have e : (k_out cA h 4).slots = (arrV cA 4 (fun j => .ref (h + 1 + j))).slots := by
    simp only [k_out, Cell.setSlot, arrV]
    apply Array.ext
    · simp
    · intro j h1 h2
      have hj : j < 4 := by simpa using h1
      rcases (show j = 0 ∨ j = 1 ∨ j = 2 ∨ j = 3 by omega) with rfl | rfl | rfl | rfl <;> simp [Array.getElem_setIfInBounds]
  have e2 : k_out cA h 4 = { arrV cA 4 (fun j => .ref (h + 1 + j)) with slots := (k_out cA h 4).slots } := by
    simp only [k_out, Cell.setSlot, arrV]
  rw [e2, e]
theorem k_mst_f (s : State) (cA cB : ClassId) : ∀ i, (k_mst s cA cB i).heap.size = s.heap.size + 1 + i ∧ (k_mst s cA cB i).heap[s.heap.size]? = some (k_out cA s.heap.size i) ∧ (k_mst s cA cB i).vm = s.vm ∧ (k_mst s cA cB i).slotsUsed = s.slotsUsed + 4 + 60 * i ∧
    (∀ a, a < s.heap.size → (k_mst s cA cB i).heap[a]? = s.heap[a]?) ∧ ∀ j, j < i → (k_mst s cA cB i).heap[s.heap.size + 1 + j]? = some (k_row cB)
  | 0 => ⟨by simp [k_mst], by simp [k_mst], rfl, by simp [k_mst, k_out], fun a ha => State.heap_pushCell_of_lt _ _ ha, fun j hj => absurd hj (Nat.not_lt_zero _)⟩
  | i + 1 => by
    obtain ⟨f1, f2, f3, f4, f5, f6⟩ := k_mst_f s cA cB i
    have hlt : s.heap.size < (k_mst s cA cB i).heap.size := by omega
    have hc : ((k_mst s cA cB i).pushCell (k_row cB)).heap[s.heap.size]? = some (k_out cA s.heap.size i) := by rw [State.heap_pushCell_of_lt (h := hlt)]; exact f2
    refine ⟨?_, State.heap_setCell_self hc, by simp [k_mst, f3], ?_, fun a ha => ?_, fun j hj => ?_⟩
    · simp [k_mst, State.setCell, f1]; omega
    · simp [k_mst, f4, k_row]; omega
    · show (((k_mst s cA cB i).pushCell (k_row cB)).setCell s.heap.size _).heap[a]? = _
      have hlt2 : a < (k_mst s cA cB i).heap.size := by omega
      rw [State.heap_setCell_other (Nat.ne_of_gt ha), State.heap_pushCell_of_lt (h := hlt2)]
      exact f5 a ha
    · show (((k_mst s cA cB i).pushCell (k_row cB)).setCell s.heap.size _).heap[s.heap.size + 1 + j]? = _
      rw [State.heap_setCell_other (show s.heap.size ≠ s.heap.size + 1 + j by omega)]
      by_cases h : j < i
      · have hlt2 : s.heap.size + 1 + j < (k_mst s cA cB i).heap.size := by omega
        rw [State.heap_pushCell_of_lt (h := hlt2)]
        exact f6 j h
      · have : j = i := by omega
        subst this
        rw [← f1]
        exact State.heap_pushCell_size _ _
theorem k_mst_top (s : State) (f : JFrame) (cA cB : ClassId) : ∀ i, k_mst (s.setTop f) cA cB i = (k_mst s cA cB i).setTop f
  | 0 => rfl
  | i + 1 => by simp only [k_mst, k_mst_top s f cA cB i, State.heap_setTop, State.pushCell_setTop, State.setCell_setTop]
section KMW
variable {E : CtlPost} {e : Env} {d : Bool} {acts : List Action} {s : State}
theorem k_wpNew {cA comp : ClassId} {k : Class} {ty : FieldType} {n : Nat} {v : Value} {Q : Addr → Pre} (hk : s.vm.classes[cA]? = some k) (hkd : k.kind = .array comp ty) (hl : ¬ n > e.platform.arrayLengthLimit) (hh : ¬ n * componentBytes ty > e.platform.maxHeapBytes) (hf : fits ty v = true) (hv : v.isDefault = true) (h1 : s.heap.size < e.platform.maxCells) (h2 : s.slotsUsed + n ≤ e.platform.maxSlots)
    (hq : Q s.heap.size d acts (s.pushCell { cls := cA, slots := Array.replicate n v, vm := .none })) : wp (Jvm.newArray cA n v) Q E e d acts s := by
  have a1 : allocActs (Array.replicate n v) s.heap.size acts = acts := by
    unfold allocActs
    have h3 : ((Array.replicate n v).all (·.isDefault)) = true := by
      rw [Array.all_replicate]
      split <;> simp [hv]
    rw [if_pos h3]
  simp only [Jvm.newArray, Jvm.arrayFits, wp_bind', W.ask, W.ite, hl, if_false, wp_pure', W.theClass, hk, hkd, hh, W.alloc, W.stop, Option.some.injEq, exists_eq_left', Array.size_replicate, a1]
  rw [if_neg (by omega)]
  refine ⟨h1, h2, fun i x hx => ?_, hq⟩
  rw [Array.getElem?_replicate] at hx
  split at hx
  · cases hx
    simp [State.fitsSlot, State.slotType?, hk, hkd, hf]
  · cases hx
theorem k_wpMulti {cA cB cc : ClassId} {k kc : Class} {Q : Addr → Pre} (hk : s.vm.classes[cA]? = some k) (hkd : k.kind = .array cB (.array .long)) (hkc : s.vm.classes[cB]? = some kc) (hkdc : kc.kind = .array cc .long) (hl : ¬ 60 > e.platform.arrayLengthLimit) (hh : ¬ 480 > e.platform.maxHeapBytes)
    (h1 : s.heap.size + 5 ≤ e.platform.maxCells) (h2 : s.slotsUsed + 244 ≤ e.platform.maxSlots) (hq : ∀ d' acts', Q s.heap.size d' acts' (k_mst s cA cB 4)) : wp (multianewarray.make cA [4, 60]) Q E e d acts s := by
  have n4 : ¬ (4 : Int32) < 0 := by decide
  have n60 : ¬ (60 : Int32) < 0 := by decide
  have c4 : (4 : Int32).toNatClampNeg = 4 := by decide
  have c60 : (60 : Int32).toNatClampNeg = 60 := by decide
  rw [multianewarray.make]
  simp only [wp_bind', W.ite, n4, if_false, wp_pure', W.theClass, hk, hkd, Option.some.injEq, exists_eq_left', c4]
  refine k_wpNew hk hkd (by omega) (by show ¬ 4 * 4 > _; omega) rfl rfl (by omega) (by omega) ?_
  have hnf : (([60] : List Int32).find? (· < 0)) = none := by decide
  simp only [hnf]
  rw [ite_self, wp_bind', Std.Legacy.Range.forIn_eq_forIn_range']
  have hsz : ([:4] : Std.Legacy.Range).size = 4 := by simp [Std.Legacy.Range.size]
  rw [hsz]
  show wp (forIn (List.range' 0 4 1) PUnit.unit _) _ E e d acts _
  refine wp_forIn_inv (fun rest s' => ∃ i, i ≤ 4 ∧ rest = List.range' i (4 - i) ∧ s' = k_mst s cA cB i) _ _ ⟨0, Nat.zero_le _, rfl, rfl⟩ ?_ ?_
  · rintro x rest s' d' acts' Q' ⟨i, hi, hr, rfl⟩ hnext
    have hx : x = i ∧ i < 4 ∧ rest = List.range' (i + 1) (4 - (i + 1)) := by
      rcases (show i = 0 ∨ i = 1 ∨ i = 2 ∨ i = 3 ∨ i = 4 by omega) with rfl | rfl | rfl | rfl | rfl
      · cases hr; exact ⟨rfl, by decide, rfl⟩
      · cases hr; exact ⟨rfl, by decide, rfl⟩
      · cases hr; exact ⟨rfl, by decide, rfl⟩
      · cases hr; exact ⟨rfl, by decide, rfl⟩
      · cases hr
    obtain ⟨rfl, hlt, hrest⟩ := hx
    obtain ⟨f1, f2, f3, f4, -, -⟩ := k_mst_f s cA cB x
    obtain ⟨o1, o2, o3⟩ := k_out_f cA s.heap.size x
    simp only [wp_bind']
    rw [multianewarray.make]
    simp only [wp_bind', W.ite, n60, if_false, wp_pure', W.theClass, f3, hkc, hkdc, Option.some.injEq, exists_eq_left', c60]
    refine k_wpNew (k := kc) (by rw [f3]; exact hkc) hkdc hl (by show ¬ 60 * 8 > _; omega) rfl rfl (by rw [f1]; omega) (by rw [f4]; omega) ?_
    have hlt0 : s.heap.size < (k_mst s cA cB x).heap.size := by omega
    simp only [wp_bind', W.writeLoc, wp_pure']
    refine ⟨k_out cA s.heap.size x, by rw [State.heap_pushCell_of_lt (h := hlt0)]; exact f2, by rw [o2]; simp, by rw [o3]; exact hlt, ?_, hnext _ _ _ ⟨x + 1, hlt, hrest, ?_⟩⟩
    · rw [o1, o2]
      simp [State.fitsSlot, State.slotType?, f3, hk, hkd]
      rfl
    · rw [f1]; rfl
  · rintro s' d' acts' ⟨i, hi, hr, rfl⟩
    have : i = 4 := by
      rcases (show i = 0 ∨ i = 1 ∨ i = 2 ∨ i = 3 ∨ i = 4 by omega) with rfl | rfl | rfl | rfl | rfl
      · cases hr
      · cases hr
      · cases hr
      · cases hr
      · rfl
    subst this
    simp only [wp_pure']
    exact hq _ _
end KMW
theorem k_ovr {args : Array Value} {s : State} {t : FieldType} (h : (Cond.arrayOver (.array t)).before args s = true) :
    ∃ comp cA k, s.vm.findClass (FieldType.array t).toString = some comp ∧ s.vm.classes[cA]? = some k ∧ k.kind = .array comp (.array t) ∧ s.vm.findClass ("[" ++ (FieldType.array t).toString) = some cA := by
  simp only [Cond.before, Cond.holds, Cond.value, beq_iff_eq] at h
  cases hc : s.vm.findClass (FieldType.array t).toString with
  | none => simp [hc] at h
  | some comp =>
    simp only [hc, Option.bind_some, Option.bind_eq_some_iff, Option.map_eq_some_iff] at h
    obtain ⟨cA, hi, k, hk, hb⟩ := h
    obtain ⟨hlt, hp, -⟩ := Array.findIdx?_eq_some_iff_getElem.mp hi
    rw [(Array.getElem?_eq_some_iff.mp hk).2] at hp
    cases hkind : k.kind with
    | array component ty =>
      rw [hkind] at hb hp
      simp at hb hp
      exact ⟨comp, cA, k, rfl, hk, by rw [hkind, hp, hb.1], hb.2⟩
    | _ => rw [hkind] at hb; simp at hb
section KMS
variable {p : Program} {l : Launch} {e : Env} {R : Room} {s : State} {m : MethodId} {args : Array Value} {below : List Frame} {meth : Method} {c : Code} {Q : State → Prop} {cc : ByteArray}
theorem k_mstS {T : State} {locs : List Loc} {cells slots : Nat} (X : Stand p l e R s m args below meth c T locs cells slots) (cA cB : ClassId) : ∀ i, Stand p l e R s m args below meth c (k_mst T cA cB i) locs (cells + 1 + i) (slots + 4 + 60 * i)
  | 0 => by
    have h := X.pushed (k_out cA T.heap.size 0)
    rw [(k_out_f cA T.heap.size 0).2.2] at h
    exact h
  | i + 1 => by
    have ih := k_mstS X cA cB i
    obtain ⟨f1, f2, -, -, -, -⟩ := k_mst_f T cA cB i
    have hlt : T.heap.size < (k_mst T cA cB i).heap.size := by omega
    have hc : ((k_mst T cA cB i).pushCell (k_row cB)).heap[T.heap.size]? = some (k_out cA T.heap.size i) := by rw [State.heap_pushCell_of_lt (h := hlt)]; exact f2
    have h := (ih.pushed (k_row cB)).stored hc i (.ref (T.heap.size + 1 + i))
    have e1 : (k_row cB).slots.size = 60 := by simp [k_row]
    rw [e1] at h
    have h := h.dropFresh (fun x hx => by rw [List.mem_singleton.mp hx]; exact X.heapGrown)
    have e3 : slots + 4 + 60 * (i + 1) = slots + 4 + 60 * i + 60 := by omega
    rw [e3]
    exact h
theorem k_multi {own : String} {index pc : Nat} {H : Heap} {locs : List Loc} {cells slots : Nat} {ls : Array Slot} {rest : List Value} (hexec : p.tables.exec = Jvm.exec) (hb : c.code = cc) (hown : s.vm.findClass own = some m.cls) (hclink : (Cond.classLink own index "[[J").before args s = true) (hover : (Cond.arrayOver (.array .long)).before args s = true) (harr : (Cond.arrayClass .long).before args s = true) (hdg : decode cc pc = .ok (.multianewarray index 2, 4)) (hcells : cells + 5 ≤ R.cells) (hslots : slots + 244 ≤ R.slots)
    (kk : ∀ (H' : Heap) (cA cB : ClassId), s.vm.findClass "[[J" = some cA → s.vm.findClass "[J" = some cB → H'.size = H.size + 5 → (∀ q, q < H.size → H'[q]? = H[q]?) → H'[H.size]? = some (arrV cA 4 (fun j => .ref (H.size + 1 + j))) → (∀ j, j < 4 → H'[H.size + 1 + j]? = some (arrV cB 60 (fun _ => .long 0))) → W p l e R s m args below meth c H' locs (cells + 5) (slots + 244) Q (F0 m (pc + 4) ls (.ref H.size :: rest))) :
    W p l e R s m args below meth c H locs cells slots Q (F0 m pc ls (.int 60 :: .int 4 :: rest)) := by
  intro T hT X
  have hpl : e.platform.magicAccessors = ({} : Platform).magicAccessors := by rw [X.admits.platform]
  obtain ⟨cB, cA, kA, hcB, hkA, hkdA, hcA⟩ := k_ovr hover
  obtain ⟨cB', kB, cl0, hcB', hkB, hkdB⟩ := Cond.arrayClass_spec harr
  have eB : cB' = cB := Option.some.inj (hcB'.symm.trans hcB)
  subst eB
  obtain ⟨c0, hfc0, hcl⟩ := Cond.classLink_spec hown hclink e.platform hpl
  have hcA : s.vm.findClass "[[J" = some cA := hcA
  have hcB : s.vm.findClass "[J" = some cB' := hcB
  cases hcA.symm.trans hfc0
  obtain ⟨hg₁, hwarm₁, hready₁⟩ := State.classEntry (e := e) X.warmed hcl
  generalize T.vm.noted m.cls index (.cls cA) = vm₁ at hg₁ hwarm₁ hready₁
  have hal : s.vm.Alike vm₁ := hwarm₁.alike
  obtain ⟨kA₁, hkA₁, heA⟩ := hal.2.2 _ _ hkA
  obtain ⟨kB₁, hkB₁, heB⟩ := hal.2.2 _ _ hkB
  have hkdA₁ : kA₁.kind = .array cB' (.array .long) := by rw [heA]; exact hkdA
  have hkdB₁ : kB₁.kind = .array cl0 .long := by rw [heB]; exact hkdB
  have X₁ := X.noted hwarm₁
  obtain ⟨hr1, hr2⟩ := X.roomAbove hcells hslots
  have XF := k_mstS X₁ cA cB' 4
  obtain ⟨f1, f2, f3, f4, f5, f6⟩ := k_mst_f (T.setVm vm₁) cA cB' 4
  have hsz : (T.setVm vm₁).heap.size = H.size := by rw [← hT]; rfl
  obtain ⟨t, a1, b1⟩ := kk (k_mst (T.setVm vm₁) cA cB' 4).heap cA cB' hcA hcB (by rw [f1, hsz]) (fun q hq => by rw [f5 q (by rw [hsz]; exact hq), ← hT]; rfl) (by rw [← hsz, f2, k_out4]) (fun j hj => by rw [← hsz, f6 j hj]; unfold k_row; rw [arrV_new]) _ rfl XF
  refine ⟨t, ?_, b1⟩
  have hl : ¬ 60 > e.platform.arrayLengthLimit := by rw [Launch.admits_arrayLengthLimit X.admits]; omega
  have hh : ¬ 480 > e.platform.maxHeapBytes := by rw [Launch.admits_maxHeapBytes X.admits]; omega
  jvm_step X.here [hexec, hb, hdg]
  simp only [multianewarray.sem, wp_bind', W.resolveClassAt_links (State.method?_setTop (F0 m pc ls (.int 60 :: .int 4 :: rest)) X.here.top) hg₁]
  rw [W.popN, if_neg (by decide)]
  refine ⟨F0 m pc ls (.int 60 :: .int 4 :: rest), State.topJava?_setTop' (s := T.setVm vm₁) _ X.here.top, [.int 4, .int 60], rest, rfl, rfl, ?_⟩
  simp only [List.mapM_cons, List.mapM_nil, wp_bind', wp_pure']
  refine k_wpMulti (k := kA₁) (kc := kB₁) hkA₁ hkdA₁ hkB₁ hkdB₁ hl hh (by show T.heap.size + 5 ≤ _; omega) (by show T.slotsUsed + 244 ≤ _; omega) (fun d' acts' => ?_)
  have eS : ((T.setTop (F0 m pc ls (.int 60 :: .int 4 :: rest))).setVm vm₁).setTop { F0 m pc ls (.int 60 :: .int 4 :: rest) with stack := rest } = (T.setVm vm₁).setTop { F0 m pc ls (.int 60 :: .int 4 :: rest) with stack := rest } := by
    show ((T.setVm vm₁).setTop _).setTop _ = _
    rw [State.setTop_setTop]
  rw [eS, k_mst_top]
  simp only [wp_bind', W.mark, W.pushRef, State.topJava?_setTop' _ XF.here.top, Option.some.injEq, exists_eq_left', State.setTop_setTop, State.heap_setTop]
  intro acts
  simp [jvm, XF.here.top]
  have hz : T.heap.size = H.size := by rw [hT]
  first
    | exact a1
    | (rw [← hz] at a1; exact a1)
    | (rw [hz]; exact a1)
end KMS
