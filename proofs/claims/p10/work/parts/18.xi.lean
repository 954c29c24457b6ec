/-! what holds at every start beside the world: strings, statics, arrays of references -/
/-- the class's own string constants, and what the library's own statics hold -/
def k_tx : List String := ["town kind boat law year street hit draw ", "beside cut streets before after wages rents try each end least ", "or and not fell rose held of "]
def k_sl : List Nat := [40, 63, 29]
def k_sb : List (List Int32) := [[116, 111, 119, 110, 32, 107, 105, 110, 100, 32, 98, 111, 97, 116, 32, 108, 97, 119, 32, 121, 101, 97, 114, 32, 115, 116, 114, 101, 101, 116, 32, 104, 105, 116, 32, 100, 114, 97, 119, 32], [98, 101, 115, 105, 100, 101, 32, 99, 117, 116, 32, 115, 116, 114, 101, 101, 116, 115, 32, 98, 101, 102, 111, 114, 101, 32, 97, 102, 116, 101, 114, 32, 119, 97, 103, 101, 115, 32, 114, 101, 110, 116, 115, 32, 116, 114, 121, 32, 101, 97, 99, 104, 32, 101, 110, 100, 32, 108, 101, 97, 115, 116, 32], [111, 114, 32, 97, 110, 100, 32, 110, 111, 116, 32, 102, 101, 108, 108, 32, 114, 111, 115, 101, 32, 104, 101, 108, 100, 32, 111, 102, 32]]
def c_Xi (AA : Nat → Prop) (U : State) : Prop := ∃ (adK adV : Nat → Nat) (fm : Nat), vk_S 3 k_sl k_sb adK adV AA U U.heap ∧ (vk_R "MayBoats$Reader" 42 "town kind boat law year street hit draw " (adK 0) U ∧ vk_R "MayBoats$Reader" 48 "beside cut streets before after wages rents try each end least " (adK 1) U ∧ vk_R "MayBoats$Reader" 50 "or and not fell rose held of " (adK 2) U) ∧ va_Z "java/lang/String" "COMPACT_STRINGS" "Z" (.int 1) AA U U.heap ∧ va_Zq "jdk/internal/util/Preconditions" "SIOOBE_FORMATTER" "Ljava/util/function/BiFunction;" AA U U.heap ∧ va_AO "MayBoats$Book" U ∧ (Cond.arrayOver (.array .long)).before #[] U = true
theorem c_ovr {u U : State} {ty : FieldType} (hal : u.vm.Alike U.vm) (h : (Cond.arrayOver ty).before #[] u = true) : (Cond.arrayOver ty).before #[] U = true := by
  have h1 := (Cond.arrayOver_setVmC (args := #[]) (s := u) hal ty).trans h
  exact h1
theorem c_Xi_same {AA : Nat → Prop} {u U : State} (hv : U.vm = u.vm) (hh : U.heap = u.heap) (hal : u.vm.Alike U.vm) (h : c_Xi AA u) : c_Xi AA U := by
  obtain ⟨adK, adV, fm, h1, ⟨h2, h3, h4⟩, h5, h6, h7, h8⟩ := h
  refine ⟨adK, adV, fm, ?_, ⟨h2.same hv, h3.same hv, h4.same hv⟩, ?_, ?_, h7.moved hal, c_ovr hal h8⟩
  · rw [hh]; exact h1.moved hal
  · rw [hh]; exact h5.moved hal
  · rw [hh]; exact h6.moved hal
theorem c_Xi_at {AA : Nat → Prop} {s U : State} {H : Heap} {locs : List Loc} (hU : U.heap = H) (hW : s.WarmedH U.vm) (hS : va_S AA s.heap H locs) (h : c_Xi AA s) : c_Xi AA U := by
  obtain ⟨adK, adV, fm, h1, ⟨h2, h3, h4⟩, h5, h6, h7, h8⟩ := h
  refine ⟨adK, adV, fm, ?_, ⟨h2.warm hW, h3.warm hW, h4.warm hW⟩, ?_, ?_, h7.moved hW.alike, c_ovr hW.alike h8⟩
  · rw [hU]; exact (h1.moved hW.alike).kept hS.2.1
  · rw [hU]; exact (h5.moved hW.alike).kept hS.2.1
  · rw [hU]; exact (h6.moved hW.alike).kept hS.2.1
def c_AX (AA : Nat → Prop) (U : State) : Prop := (∀ q, U.heap.size ≤ q → AA q) ∧ c_Xi AA U
