/-! links (printed by words2.py) -/
def k_lk (own : Nat) (z : Nat × cLk) : Prop := c_lk k_cl k_Z own z.1 z.2.1 z.2.2.1 z.2.2.2.1 z.2.2.2.2
def k_allL (own : Nat) : List (Nat × cLk) → Prop
  | [] => True
  | z :: l => k_lk own z ∧ k_allL own l
theorem k_allL_ok {own : Nat} : ∀ {l : List (Nat × cLk)}, k_allL own l → ∀ z ∈ l, k_lk own z
  | [], _, z, hz => by cases hz
  | x :: l, h, z, hz => by
    rcases List.mem_cons.mp hz with rfl | hz
    · exact h.1
    · exact k_allL_ok h.2 z hz
theorem k_look_ok {α : Type} {t : Nat} {x : α} : ∀ {l : List (Nat × α)}, k_look t l = some x → (t, x) ∈ l
  | [], h => by cases h
  | q :: l, h => by
    unfold k_look at h
    split at h
    · rename_i hq
      cases h
      rw [← Nat.eq_of_beq_eq_true hq]
      exact List.mem_cons_self
    · exact List.mem_cons_of_mem _ (k_look_ok h)
theorem k_Zh : k_Z.2.2.2.2 = "MayBoats" := by unfold k_Z; rfl
theorem k_Zn : k_Z.2.2.2.1 = k_ns := by unfold k_Z; dsimp only
theorem k_lk2 {cl : List vw_C} {Z : cStat} {own idx a b : Nat} {v : Int} (M : cMth) (h : Z.2.1 a = some M) (hw : Jvm.Cond.methodLinkNest (Z.1 own) idx M.1 Z.2.2.2.2 ∈ Z.2.2.2.1) (hb : M.2.2.2.2 = b) : c_lk cl Z own idx 2 a b v := ⟨M, h, hw, hb⟩
theorem k_l0 {own idx a b N : Nat} {v : Int} {C : String} {T : u_T} (h : k_cl[a]? = some (C, T, N)) (hb : Nat.ble (b + 1) N = true) (hw : Jvm.Cond.fieldLink (k_nm own) idx (T b).1 (T b).2.1 (T b).2.2.1 ∈ k_ws) : k_lk own (idx, 0, a, b, v) := ⟨C, T, N, h, Nat.le_of_ble_eq_true hb, hw⟩
theorem k_l1 {own idx a b : Nat} {v : Int} (M : cMth) (h : k_meth a = some M) (hw : Jvm.Cond.methodLink (k_nm own) idx M.1 ∈ k_ws) (hb : M.2.2.2.2 = b) : k_lk own (idx, 1, a, b, v) := ⟨M, h, hw, hb⟩
theorem k_l2 {own idx a b : Nat} {v : Int} (M : cMth) (h : k_meth a = some M) (hw : Jvm.Cond.methodLinkNest (k_nm own) idx M.1 "MayBoats" ∈ k_ns) (hb : M.2.2.2.2 = b) : k_lk own (idx, 2, a, b, v) := k_lk2 M h (by rw [k_Zh, k_Zn]; exact hw) hb
theorem k_l3 {own idx a b : Nat} {v : Int} {C : String} {T : u_T} (h : k_cl[a]? = some (C, T, b)) (h1 : Jvm.Cond.classLink (k_nm own) idx C ∈ k_ws) (h2 : Jvm.Cond.instantiable C b ∈ k_ws) (h3 : Jvm.Cond.initialized C ∈ k_ws) : k_lk own (idx, 3, a, b, v) := ⟨C, T, h, h1, h2, h3⟩
theorem k_l4 {own idx a b : Nat} {v : Int} (h : Jvm.Cond.constant (k_nm own) idx (Int32.ofInt v) ∈ k_ws) : k_lk own (idx, 4, a, b, v) := h
theorem k_l9 {own idx a b : Nat} {v : Int} (h : Jvm.Cond.constantLong (k_nm own) idx (Int64.ofInt v) ∈ k_ws) : k_lk own (idx, 9, a, b, v) := h
theorem k_l5 {own idx a b : Nat} {v : Int} (h : Jvm.Cond.methodLink (k_nm own) idx Lib.objectInit ∈ k_ws) : k_lk own (idx, 5, a, b, v) := h
theorem k_l6 {own idx a b : Nat} {v : Int} (h : Jvm.Cond.methodLink (k_nm own) idx arraycopyName ∈ k_ws) : k_lk own (idx, 6, a, b, v) := h
theorem k_ln0_3 : k_lk 0 (3, 5, 0, 0, 0) := k_l5 (k_in 1 158 rfl rfl)
theorem k_ln0_9 : k_lk 0 (9, 3, 2, 14, 0) := k_l3 k_cc2 (k_in 1 159 rfl rfl) (k_in 1 160 rfl rfl) (k_in 1 9 rfl rfl)
theorem k_ln0_11 : k_lk 0 (11, 2, 14, 2, 0) := k_l2 k_M14 rfl (k_inN 1 161 rfl rfl) rfl
theorem k_ln0_12 : k_lk 0 (12, 0, 0, 0, 0) := k_l0 k_cc0 rfl (k_in 2 105 rfl rfl)
theorem k_ln0_18 : k_lk 0 (18, 3, 8, 7, 0) := k_l3 k_cc8 (k_in 1 225 rfl rfl) (k_in 1 226 rfl rfl) (k_in 1 10 rfl rfl)
theorem k_ln0_20 : k_lk 0 (20, 2, 88, 2, 0) := k_l2 k_M88 rfl (k_inN 1 227 rfl rfl) rfl
theorem k_ln0_21 : k_lk 0 (21, 0, 0, 1, 0) := k_l0 k_cc0 rfl (k_in 2 109 rfl rfl)
theorem k_ln0_25 : k_lk 0 (25, 3, 3, 8, 0) := k_l3 k_cc3 (k_in 2 19 rfl rfl) (k_in 2 20 rfl rfl) (k_in 1 11 rfl rfl)
theorem k_ln0_27 : k_lk 0 (27, 2, 31, 2, 0) := k_l2 k_M31 rfl (k_inN 2 21 rfl rfl) rfl
theorem k_ln0_28 : k_lk 0 (28, 0, 0, 2, 0) := k_l0 k_cc0 rfl (k_in 2 112 rfl rfl)
theorem k_ln0_32 : k_lk 0 (32, 3, 5, 8, 0) := k_l3 k_cc5 (k_in 2 53 rfl rfl) (k_in 2 54 rfl rfl) (k_in 1 12 rfl rfl)
theorem k_ln0_34 : k_lk 0 (34, 2, 62, 2, 0) := k_l2 k_M62 rfl (k_inN 2 55 rfl rfl) rfl
theorem k_ln0_35 : k_lk 0 (35, 0, 0, 3, 0) := k_l0 k_cc0 rfl (k_in 2 115 rfl rfl)
theorem k_ln0_39 : k_lk 0 (39, 0, 0, 4, 0) := k_l0 k_cc0 rfl (k_in 2 121 rfl rfl)
theorem k_ln0_43 : k_lk 0 (43, 1, 15, 0, 0) := k_l1 k_M15 rfl (k_in 7 41 rfl rfl) rfl
theorem k_ln0_47 : k_lk 0 (47, 1, 89, 0, 0) := k_l1 k_M89 rfl (k_in 7 46 rfl rfl) rfl
theorem k_ln0_50 : k_lk 0 (50, 1, 32, 0, 0) := k_l1 k_M32 rfl (k_in 7 51 rfl rfl) rfl
theorem k_ln0_53 : k_lk 0 (53, 1, 64, 0, 0) := k_l1 k_M64 rfl (k_in 7 56 rfl rfl) rfl
theorem k_ln0_56 : k_lk 0 (56, 6, 0, 0, 0) := k_l6 (k_in 7 57 rfl rfl)
theorem k_ln0_62 : k_lk 0 (62, 0, 0, 5, 0) := k_l0 k_cc0 rfl (k_in 2 122 rfl rfl)
theorem k_ln0_66 : k_lk 0 (66, 0, 2, 9, 0) := k_l0 k_cc2 rfl (k_in 1 181 rfl rfl)
theorem k_ln0_69 : k_lk 0 (69, 2, 120, 1, 0) := k_l2 k_M120 rfl (k_inN 4 190 rfl rfl) rfl
theorem k_ln0_73 : k_lk 0 (73, 9, 0, 0, 11) := k_l9 (k_in 4 191 rfl rfl)
theorem k_ln0_75 : k_lk 0 (75, 0, 2, 10, 0) := k_l0 k_cc2 rfl (k_in 1 187 rfl rfl)
theorem k_ln0_78 : k_lk 0 (78, 9, 0, 0, 3) := k_l9 (k_in 4 192 rfl rfl)
theorem k_ln0_80 : k_lk 0 (80, 9, 0, 0, (-1)) := k_l9 (k_in 4 193 rfl rfl)
theorem k_ln0_82 : k_lk 0 (82, 9, 0, 0, 999) := k_l9 (k_in 4 194 rfl rfl)
theorem k_ln0_84 : k_lk 0 (84, 1, 3, 0, 0) := k_l1 k_M3 rfl (k_in 4 199 rfl rfl) rfl
theorem k_ln0_88 : k_lk 0 (88, 1, 2, 0, 0) := k_l1 k_M2 rfl (k_in 6 37 rfl rfl) rfl
theorem k_ln0_92 : k_lk 0 (92, 1, 28, 0, 0) := k_l1 k_M28 rfl (k_in 6 38 rfl rfl) rfl
theorem k_lA0_0 : k_allL 0 k_lI0_0 := ⟨k_ln0_3, k_ln0_9, k_ln0_11, k_ln0_12, k_ln0_18, k_ln0_20, k_ln0_21, k_ln0_25, k_ln0_27, k_ln0_28, k_ln0_32, k_ln0_34, k_ln0_35, k_ln0_39, k_ln0_43, k_ln0_47, k_ln0_50, k_ln0_53, k_ln0_56, k_ln0_62, k_ln0_66, k_ln0_69, k_ln0_73, k_ln0_75, k_ln0_78, k_ln0_80, k_ln0_82, k_ln0_84, k_ln0_88, k_ln0_92, trivial⟩
theorem k_lA0 : ∀ z ∈ k_lI0, k_lk 0 z := by
  intro z hz
  unfold k_lI0 at hz
  · exact k_allL_ok k_lA0_0 z hz
theorem k_ln1_1 : k_lk 1 (1, 5, 0, 0, 0) := k_l5 (k_in 1 34 rfl rfl)
theorem k_ln1_7 : k_lk 1 (7, 0, 1, 0, 0) := k_l0 k_cc1 rfl (k_in 1 35 rfl rfl)
theorem k_ln1_13 : k_lk 1 (13, 0, 1, 1, 0) := k_l0 k_cc1 rfl (k_in 1 38 rfl rfl)
theorem k_ln1_16 : k_lk 1 (16, 1, 358, 1, 0) := k_l1 k_M358 rfl (k_in 5 47 rfl rfl) rfl
theorem k_ln1_22 : k_lk 1 (22, 1, 360, 1, 0) := k_l1 k_M360 rfl (k_in 5 50 rfl rfl) rfl
theorem k_ln1_26 : k_lk 1 (26, 1, 8, 1, 0) := k_l1 k_M8 rfl (k_in 5 44 rfl rfl) rfl
theorem k_ln1_29 : k_lk 1 (29, 1, 9, 0, 0) := k_l1 k_M9 rfl (k_in 5 205 rfl rfl) rfl
theorem k_lA1_0 : k_allL 1 k_lI1_0 := ⟨k_ln1_1, k_ln1_7, k_ln1_13, k_ln1_16, k_ln1_22, k_ln1_26, k_ln1_29, trivial⟩
theorem k_lA1 : ∀ z ∈ k_lI1, k_lk 1 z := by
  intro z hz
  unfold k_lI1 at hz
  · exact k_allL_ok k_lA1_0 z hz
theorem k_ln2_3 : k_lk 2 (3, 5, 0, 0, 0) := k_l5 (k_in 1 164 rfl rfl)
theorem k_ln2_9 : k_lk 2 (9, 0, 2, 0, 0) := k_l0 k_cc2 rfl (k_in 1 165 rfl rfl)
theorem k_ln2_15 : k_lk 2 (15, 0, 2, 1, 0) := k_l0 k_cc2 rfl (k_in 1 167 rfl rfl)
theorem k_ln2_18 : k_lk 2 (18, 0, 2, 2, 0) := k_l0 k_cc2 rfl (k_in 1 170 rfl rfl)
theorem k_ln2_21 : k_lk 2 (21, 0, 2, 3, 0) := k_l0 k_cc2 rfl (k_in 1 171 rfl rfl)
theorem k_ln2_25 : k_lk 2 (25, 0, 2, 4, 0) := k_l0 k_cc2 rfl (k_in 1 173 rfl rfl)
theorem k_ln2_28 : k_lk 2 (28, 0, 2, 5, 0) := k_l0 k_cc2 rfl (k_in 1 175 rfl rfl)
theorem k_ln2_31 : k_lk 2 (31, 0, 2, 6, 0) := k_l0 k_cc2 rfl (k_in 1 176 rfl rfl)
theorem k_ln2_35 : k_lk 2 (35, 0, 2, 7, 0) := k_l0 k_cc2 rfl (k_in 1 177 rfl rfl)
theorem k_ln2_38 : k_lk 2 (38, 0, 2, 8, 0) := k_l0 k_cc2 rfl (k_in 1 178 rfl rfl)
theorem k_ln2_41 : k_lk 2 (41, 6, 0, 0, 0) := k_l6 (k_in 7 45 rfl rfl)
theorem k_ln2_47 : k_lk 2 (47, 0, 2, 9, 0) := k_l0 k_cc2 rfl (k_in 1 179 rfl rfl)
theorem k_ln2_51 : k_lk 2 (51, 0, 2, 10, 0) := k_l0 k_cc2 rfl (k_in 1 185 rfl rfl)
theorem k_ln2_54 : k_lk 2 (54, 0, 2, 11, 0) := k_l0 k_cc2 rfl (k_in 1 191 rfl rfl)
theorem k_ln2_57 : k_lk 2 (57, 0, 2, 12, 0) := k_l0 k_cc2 rfl (k_in 1 193 rfl rfl)
theorem k_ln2_60 : k_lk 2 (60, 0, 2, 13, 0) := k_l0 k_cc2 rfl (k_in 1 195 rfl rfl)
theorem k_ln2_63 : k_lk 2 (63, 1, 51, 0, 0) := k_l1 k_M51 rfl (k_in 4 28 rfl rfl) rfl
theorem k_ln2_69 : k_lk 2 (69, 1, 55, 0, 0) := k_l1 k_M55 rfl (k_in 4 32 rfl rfl) rfl
theorem k_ln2_73 : k_lk 2 (73, 1, 20, 0, 0) := k_l1 k_M20 rfl (k_in 4 36 rfl rfl) rfl
theorem k_ln2_77 : k_lk 2 (77, 1, 21, 0, 0) := k_l1 k_M21 rfl (k_in 4 73 rfl rfl) rfl
theorem k_ln2_81 : k_lk 2 (81, 1, 23, 0, 0) := k_l1 k_M23 rfl (k_in 4 85 rfl rfl) rfl
theorem k_ln2_84 : k_lk 2 (84, 1, 58, 0, 0) := k_l1 k_M58 rfl (k_in 4 44 rfl rfl) rfl
theorem k_ln2_88 : k_lk 2 (88, 1, 57, 0, 0) := k_l1 k_M57 rfl (k_in 4 48 rfl rfl) rfl
theorem k_ln2_91 : k_lk 2 (91, 1, 54, 0, 0) := k_l1 k_M54 rfl (k_in 4 49 rfl rfl) rfl
theorem k_ln2_95 : k_lk 2 (95, 1, 56, 0, 0) := k_l1 k_M56 rfl (k_in 4 53 rfl rfl) rfl
theorem k_ln2_99 : k_lk 2 (99, 1, 18, 0, 0) := k_l1 k_M18 rfl (k_in 4 57 rfl rfl) rfl
theorem k_ln2_103 : k_lk 2 (103, 1, 19, 1, 0) := k_l1 k_M19 rfl (k_in 4 61 rfl rfl) rfl
theorem k_ln2_107 : k_lk 2 (107, 1, 17, 0, 0) := k_l1 k_M17 rfl (k_in 4 40 rfl rfl) rfl
theorem k_ln2_111 : k_lk 2 (111, 1, 59, 0, 0) := k_l1 k_M59 rfl (k_in 4 64 rfl rfl) rfl
theorem k_ln2_115 : k_lk 2 (115, 1, 22, 0, 0) := k_l1 k_M22 rfl (k_in 4 77 rfl rfl) rfl
theorem k_ln2_119 : k_lk 2 (119, 1, 60, 0, 0) := k_l1 k_M60 rfl (k_in 4 81 rfl rfl) rfl
theorem k_ln2_123 : k_lk 2 (123, 1, 25, 0, 0) := k_l1 k_M25 rfl (k_in 4 89 rfl rfl) rfl
theorem k_ln2_127 : k_lk 2 (127, 1, 26, 0, 0) := k_l1 k_M26 rfl (k_in 4 93 rfl rfl) rfl
theorem k_ln2_130 : k_lk 2 (130, 1, 53, 0, 0) := k_l1 k_M53 rfl (k_in 4 111 rfl rfl) rfl
theorem k_ln2_134 : k_lk 2 (134, 1, 24, 0, 0) := k_l1 k_M24 rfl (k_in 4 105 rfl rfl) rfl
theorem k_ln2_137 : k_lk 2 (137, 1, 27, 0, 0) := k_l1 k_M27 rfl (k_in 4 97 rfl rfl) rfl
theorem k_ln2_140 : k_lk 2 (140, 1, 52, 0, 0) := k_l1 k_M52 rfl (k_in 4 101 rfl rfl) rfl
theorem k_ln2_143 : k_lk 2 (143, 9, 0, 0, 7) := k_l9 (k_in 4 109 rfl rfl)
theorem k_ln2_145 : k_lk 2 (145, 2, 120, 1, 0) := k_l2 k_M120 rfl (k_inN 4 110 rfl rfl) rfl
theorem k_ln2_149 : k_lk 2 (149, 9, 0, 0, 999) := k_l9 (k_in 4 168 rfl rfl)
theorem k_ln2_151 : k_lk 2 (151, 1, 29, 0, 0) := k_l1 k_M29 rfl (k_in 4 169 rfl rfl) rfl
theorem k_ln2_155 : k_lk 2 (155, 1, 362, 1, 0) := k_l1 k_M362 rfl (k_in 4 176 rfl rfl) rfl
theorem k_ln2_161 : k_lk 2 (161, 1, 360, 1, 0) := k_l1 k_M360 rfl (k_in 4 179 rfl rfl) rfl
theorem k_ln2_164 : k_lk 2 (164, 1, 30, 1, 0) := k_l1 k_M30 rfl (k_in 4 173 rfl rfl) rfl
theorem k_lA2_0 : k_allL 2 k_lI2_0 := ⟨k_ln2_3, k_ln2_9, k_ln2_15, k_ln2_18, k_ln2_21, k_ln2_25, k_ln2_28, k_ln2_31, k_ln2_35, k_ln2_38, k_ln2_41, k_ln2_47, k_ln2_51, k_ln2_54, k_ln2_57, k_ln2_60, k_ln2_63, k_ln2_69, k_ln2_73, k_ln2_77, k_ln2_81, k_ln2_84, k_ln2_88, k_ln2_91, k_ln2_95, k_ln2_99, k_ln2_103, k_ln2_107, k_ln2_111, k_ln2_115, trivial⟩
theorem k_lA2_1 : k_allL 2 k_lI2_1 := ⟨k_ln2_119, k_ln2_123, k_ln2_127, k_ln2_130, k_ln2_134, k_ln2_137, k_ln2_140, k_ln2_143, k_ln2_145, k_ln2_149, k_ln2_151, k_ln2_155, k_ln2_161, k_ln2_164, trivial⟩
theorem k_lA2 : ∀ z ∈ k_lI2, k_lk 2 z := by
  intro z hz
  unfold k_lI2 at hz
  simp only [List.mem_append] at hz
  rcases hz with hz | hz
  · exact k_allL_ok k_lA2_0 z hz
  · exact k_allL_ok k_lA2_1 z hz
theorem k_ln3_3 : k_lk 3 (3, 5, 0, 0, 0) := k_l5 (k_in 2 24 rfl rfl)
theorem k_ln3_9 : k_lk 3 (9, 0, 3, 0, 0) := k_l0 k_cc3 rfl (k_in 2 25 rfl rfl)
theorem k_ln3_15 : k_lk 3 (15, 0, 3, 1, 0) := k_l0 k_cc3 rfl (k_in 2 26 rfl rfl)
theorem k_ln3_19 : k_lk 3 (19, 0, 3, 2, 0) := k_l0 k_cc3 rfl (k_in 2 27 rfl rfl)
theorem k_ln3_22 : k_lk 3 (22, 0, 3, 3, 0) := k_l0 k_cc3 rfl (k_in 2 29 rfl rfl)
theorem k_ln3_25 : k_lk 3 (25, 0, 3, 4, 0) := k_l0 k_cc3 rfl (k_in 2 30 rfl rfl)
theorem k_ln3_28 : k_lk 3 (28, 0, 3, 5, 0) := k_l0 k_cc3 rfl (k_in 2 31 rfl rfl)
theorem k_ln3_32 : k_lk 3 (32, 6, 0, 0, 0) := k_l6 (k_in 7 55 rfl rfl)
theorem k_ln3_38 : k_lk 3 (38, 0, 3, 6, 0) := k_l0 k_cc3 rfl (k_in 2 32 rfl rfl)
theorem k_ln3_42 : k_lk 3 (42, 0, 3, 7, 0) := k_l0 k_cc3 rfl (k_in 2 33 rfl rfl)
theorem k_ln3_45 : k_lk 3 (45, 1, 35, 0, 0) := k_l1 k_M35 rfl (k_in 6 175 rfl rfl) rfl
theorem k_ln3_49 : k_lk 3 (49, 1, 59, 0, 0) := k_l1 k_M59 rfl (k_in 6 199 rfl rfl) rfl
theorem k_ln3_55 : k_lk 3 (55, 1, 51, 0, 0) := k_l1 k_M51 rfl (k_in 6 206 rfl rfl) rfl
theorem k_ln3_59 : k_lk 3 (59, 1, 58, 0, 0) := k_l1 k_M58 rfl (k_in 6 193 rfl rfl) rfl
theorem k_ln3_63 : k_lk 3 (63, 1, 36, 0, 0) := k_l1 k_M36 rfl (k_in 6 179 rfl rfl) rfl
theorem k_ln3_66 : k_lk 3 (66, 1, 55, 0, 0) := k_l1 k_M55 rfl (k_in 6 187 rfl rfl) rfl
theorem k_ln3_70 : k_lk 3 (70, 1, 57, 0, 0) := k_l1 k_M57 rfl (k_in 6 194 rfl rfl) rfl
theorem k_ln3_73 : k_lk 3 (73, 1, 34, 0, 0) := k_l1 k_M34 rfl (k_in 6 195 rfl rfl) rfl
theorem k_ln3_76 : k_lk 3 (76, 1, 37, 0, 0) := k_l1 k_M37 rfl (k_in 6 183 rfl rfl) rfl
theorem k_ln3_79 : k_lk 3 (79, 9, 0, 0, 22) := k_l9 (k_in 6 188 rfl rfl)
theorem k_ln3_81 : k_lk 3 (81, 9, 0, 0, 24) := k_l9 (k_in 6 189 rfl rfl)
theorem k_ln3_83 : k_lk 3 (83, 2, 120, 1, 0) := k_l2 k_M120 rfl (k_inN 6 190 rfl rfl) rfl
theorem k_ln3_87 : k_lk 3 (87, 1, 53, 0, 0) := k_l1 k_M53 rfl (k_in 6 191 rfl rfl) rfl
theorem k_ln3_91 : k_lk 3 (91, 9, 0, 0, 21) := k_l9 (k_in 6 192 rfl rfl)
theorem k_ln3_93 : k_lk 3 (93, 1, 38, 0, 0) := k_l1 k_M38 rfl (k_in 6 200 rfl rfl) rfl
theorem k_ln3_96 : k_lk 3 (96, 1, 60, 0, 0) := k_l1 k_M60 rfl (k_in 6 204 rfl rfl) rfl
theorem k_ln3_100 : k_lk 3 (100, 0, 2, 1, 0) := k_l0 k_cc2 rfl (k_in 1 169 rfl rfl)
theorem k_ln3_106 : k_lk 3 (106, 0, 2, 10, 0) := k_l0 k_cc2 rfl (k_in 1 189 rfl rfl)
theorem k_ln3_108 : k_lk 3 (108, 1, 61, 0, 0) := k_l1 k_M61 rfl (k_in 6 205 rfl rfl) rfl
theorem k_ln3_112 : k_lk 3 (112, 1, 76, 0, 0) := k_l1 k_M76 rfl (k_in 7 6 rfl rfl) rfl
theorem k_ln3_118 : k_lk 3 (118, 1, 78, 0, 0) := k_l1 k_M78 rfl (k_in 7 7 rfl rfl) rfl
theorem k_ln3_122 : k_lk 3 (122, 1, 77, 0, 0) := k_l1 k_M77 rfl (k_in 7 8 rfl rfl) rfl
theorem k_ln3_125 : k_lk 3 (125, 1, 358, 1, 0) := k_l1 k_M358 rfl (k_in 7 9 rfl rfl) rfl
theorem k_ln3_131 : k_lk 3 (131, 1, 361, 1, 0) := k_l1 k_M361 rfl (k_in 7 14 rfl rfl) rfl
theorem k_ln3_134 : k_lk 3 (134, 1, 359, 1, 0) := k_l1 k_M359 rfl (k_in 7 15 rfl rfl) rfl
theorem k_lA3_0 : k_allL 3 k_lI3_0 := ⟨k_ln3_3, k_ln3_9, k_ln3_15, k_ln3_19, k_ln3_22, k_ln3_25, k_ln3_28, k_ln3_32, k_ln3_38, k_ln3_42, k_ln3_45, k_ln3_49, k_ln3_55, k_ln3_59, k_ln3_63, k_ln3_66, k_ln3_70, k_ln3_73, k_ln3_76, k_ln3_79, k_ln3_81, k_ln3_83, k_ln3_87, k_ln3_91, k_ln3_93, k_ln3_96, k_ln3_100, k_ln3_106, k_ln3_108, k_ln3_112, trivial⟩
theorem k_lA3_1 : k_allL 3 k_lI3_1 := ⟨k_ln3_118, k_ln3_122, k_ln3_125, k_ln3_131, k_ln3_134, trivial⟩
theorem k_lA3 : ∀ z ∈ k_lI3, k_lk 3 z := by
  intro z hz
  unfold k_lI3 at hz
  simp only [List.mem_append] at hz
  rcases hz with hz | hz
  · exact k_allL_ok k_lA3_0 z hz
  · exact k_allL_ok k_lA3_1 z hz
theorem k_ln4_3 : k_lk 4 (3, 5, 0, 0, 0) := k_l5 (k_in 1 53 rfl rfl)
theorem k_ln4_11 : k_lk 4 (11, 0, 4, 0, 0) := k_l0 k_cc4 rfl (k_in 1 110 rfl rfl)
theorem k_ln4_15 : k_lk 4 (15, 0, 4, 1, 0) := k_l0 k_cc4 rfl (k_in 1 111 rfl rfl)
theorem k_ln4_18 : k_lk 4 (18, 0, 4, 2, 0) := k_l0 k_cc4 rfl (k_in 1 112 rfl rfl)
theorem k_ln4_22 : k_lk 4 (22, 0, 4, 3, 0) := k_l0 k_cc4 rfl (k_in 1 113 rfl rfl)
theorem k_ln4_26 : k_lk 4 (26, 0, 4, 4, 0) := k_l0 k_cc4 rfl (k_in 1 114 rfl rfl)
theorem k_ln4_29 : k_lk 4 (29, 0, 4, 7, 0) := k_l0 k_cc4 rfl (k_in 1 117 rfl rfl)
theorem k_ln4_33 : k_lk 4 (33, 0, 4, 8, 0) := k_l0 k_cc4 rfl (k_in 1 118 rfl rfl)
theorem k_ln4_36 : k_lk 4 (36, 0, 4, 10, 0) := k_l0 k_cc4 rfl (k_in 1 120 rfl rfl)
theorem k_ln4_39 : k_lk 4 (39, 0, 4, 11, 0) := k_l0 k_cc4 rfl (k_in 1 122 rfl rfl)
theorem k_ln4_44 : k_lk 4 (44, 1, 42, 0, 0) := k_l1 k_M42 rfl (k_in 1 55 rfl rfl) rfl
theorem k_ln4_52 : k_lk 4 (52, 1, 363, 0, 0) := k_l1 k_M363 rfl (k_in 1 59 rfl rfl) rfl
theorem k_ln4_58 : k_lk 4 (58, 1, 364, 0, 0) := k_l1 k_M364 rfl (k_in 1 69 rfl rfl) rfl
theorem k_ln4_62 : k_lk 4 (62, 9, 0, 0, 32) := k_l9 (k_in 1 107 rfl rfl)
theorem k_ln4_64 : k_lk 4 (64, 0, 4, 5, 0) := k_l0 k_cc4 rfl (k_in 1 115 rfl rfl)
theorem k_ln4_67 : k_lk 4 (67, 1, 44, 1, 0) := k_l1 k_M44 rfl (k_in 3 235 rfl rfl) rfl
theorem k_ln4_71 : k_lk 4 (71, 1, 49, 0, 0) := k_l1 k_M49 rfl (k_in 3 238 rfl rfl) rfl
theorem k_ln4_75 : k_lk 4 (75, 1, 45, 1, 0) := k_l1 k_M45 rfl (k_in 4 10 rfl rfl) rfl
theorem k_ln4_78 : k_lk 4 (78, 1, 50, 0, 0) := k_l1 k_M50 rfl (k_in 4 13 rfl rfl) rfl
theorem k_ln4_81 : k_lk 4 (81, 1, 46, 1, 0) := k_l1 k_M46 rfl (k_in 4 17 rfl rfl) rfl
theorem k_ln4_84 : k_lk 4 (84, 1, 47, 0, 0) := k_l1 k_M47 rfl (k_in 4 2 rfl rfl) rfl
theorem k_ln4_88 : k_lk 4 (88, 0, 4, 6, 0) := k_l0 k_cc4 rfl (k_in 1 116 rfl rfl)
theorem k_ln4_91 : k_lk 4 (91, 1, 57, 0, 0) := k_l1 k_M57 rfl (k_in 4 20 rfl rfl) rfl
theorem k_ln4_94 : k_lk 4 (94, 1, 48, 0, 0) := k_l1 k_M48 rfl (k_in 4 6 rfl rfl) rfl
theorem k_ln4_98 : k_lk 4 (98, 0, 4, 9, 0) := k_l0 k_cc4 rfl (k_in 1 119 rfl rfl)
theorem k_ln4_102 : k_lk 4 (102, 1, 53, 0, 0) := k_l1 k_M53 rfl (k_in 4 68 rfl rfl) rfl
theorem k_ln4_106 : k_lk 4 (106, 1, 58, 0, 0) := k_l1 k_M58 rfl (k_in 4 72 rfl rfl) rfl
theorem k_ln4_110 : k_lk 4 (110, 1, 54, 0, 0) := k_l1 k_M54 rfl (k_in 6 110 rfl rfl) rfl
theorem k_ln4_114 : k_lk 4 (114, 1, 19, 1, 0) := k_l1 k_M19 rfl (k_in 6 111 rfl rfl) rfl
theorem k_ln4_120 : k_lk 4 (120, 2, 122, 1, 0) := k_l2 k_M122 rfl (k_inN 6 112 rfl rfl) rfl
theorem k_lA4_0 : k_allL 4 k_lI4_0 := ⟨k_ln4_3, k_ln4_11, k_ln4_15, k_ln4_18, k_ln4_22, k_ln4_26, k_ln4_29, k_ln4_33, k_ln4_36, k_ln4_39, k_ln4_44, k_ln4_52, k_ln4_58, k_ln4_62, k_ln4_64, k_ln4_67, k_ln4_71, k_ln4_75, k_ln4_78, k_ln4_81, k_ln4_84, k_ln4_88, k_ln4_91, k_ln4_94, k_ln4_98, k_ln4_102, k_ln4_106, k_ln4_110, k_ln4_114, k_ln4_120, trivial⟩
theorem k_lA4 : ∀ z ∈ k_lI4, k_lk 4 z := by
  intro z hz
  unfold k_lI4 at hz
  · exact k_allL_ok k_lA4_0 z hz
theorem k_ln5_3 : k_lk 5 (3, 5, 0, 0, 0) := k_l5 (k_in 2 58 rfl rfl)
theorem k_ln5_9 : k_lk 5 (9, 2, 121, 1, 0) := k_l2 k_M121 rfl (k_inN 2 59 rfl rfl) rfl
theorem k_ln5_13 : k_lk 5 (13, 0, 5, 2, 0) := k_l0 k_cc5 rfl (k_in 2 71 rfl rfl)
theorem k_ln5_19 : k_lk 5 (19, 0, 5, 3, 0) := k_l0 k_cc5 rfl (k_in 2 74 rfl rfl)
theorem k_ln5_22 : k_lk 5 (22, 0, 5, 4, 0) := k_l0 k_cc5 rfl (k_in 2 77 rfl rfl)
theorem k_ln5_25 : k_lk 5 (25, 0, 5, 5, 0) := k_l0 k_cc5 rfl (k_in 2 80 rfl rfl)
theorem k_ln5_28 : k_lk 5 (28, 0, 5, 6, 0) := k_l0 k_cc5 rfl (k_in 2 82 rfl rfl)
theorem k_ln5_31 : k_lk 5 (31, 0, 5, 0, 0) := k_l0 k_cc5 rfl (k_in 2 62 rfl rfl)
theorem k_ln5_34 : k_lk 5 (34, 0, 5, 1, 0) := k_l0 k_cc5 rfl (k_in 2 66 rfl rfl)
theorem k_ln5_37 : k_lk 5 (37, 1, 65, 0, 0) := k_l1 k_M65 rfl (k_in 4 116 rfl rfl) rfl
theorem k_ln5_41 : k_lk 5 (41, 1, 66, 0, 0) := k_l1 k_M66 rfl (k_in 4 120 rfl rfl) rfl
theorem k_ln5_44 : k_lk 5 (44, 0, 5, 7, 0) := k_l0 k_cc5 rfl (k_in 2 84 rfl rfl)
theorem k_ln5_48 : k_lk 5 (48, 1, 359, 1, 0) := k_l1 k_M359 rfl (k_in 5 85 rfl rfl) rfl
theorem k_ln5_54 : k_lk 5 (54, 1, 361, 1, 0) := k_l1 k_M361 rfl (k_in 5 88 rfl rfl) rfl
theorem k_ln5_57 : k_lk 5 (57, 1, 2, 0, 0) := k_l1 k_M2 rfl (k_in 5 25 rfl rfl) rfl
theorem k_ln5_62 : k_lk 5 (62, 2, 122, 1, 0) := k_l2 k_M122 rfl (k_inN 5 26 rfl rfl) rfl
theorem k_lA5_0 : k_allL 5 k_lI5_0 := ⟨k_ln5_3, k_ln5_9, k_ln5_13, k_ln5_19, k_ln5_22, k_ln5_25, k_ln5_28, k_ln5_31, k_ln5_34, k_ln5_37, k_ln5_41, k_ln5_44, k_ln5_48, k_ln5_54, k_ln5_57, k_ln5_62, trivial⟩
theorem k_lA5 : ∀ z ∈ k_lI5, k_lk 5 z := by
  intro z hz
  unfold k_lI5 at hz
  · exact k_allL_ok k_lA5_0 z hz
theorem k_ln6_3 : k_lk 6 (3, 5, 0, 0, 0) := k_l5 (k_in 2 151 rfl rfl)
theorem k_ln6_9 : k_lk 6 (9, 0, 6, 0, 0) := k_l0 k_cc6 rfl (k_in 2 152 rfl rfl)
theorem k_ln6_15 : k_lk 6 (15, 0, 6, 1, 0) := k_l0 k_cc6 rfl (k_in 2 155 rfl rfl)
theorem k_ln6_19 : k_lk 6 (19, 0, 6, 2, 0) := k_l0 k_cc6 rfl (k_in 2 158 rfl rfl)
theorem k_ln6_22 : k_lk 6 (22, 1, 374, 1, 0) := k_l1 k_M374 rfl (k_in 5 67 rfl rfl) rfl
theorem k_ln6_28 : k_lk 6 (28, 1, 373, 1, 0) := k_l1 k_M373 rfl (k_in 5 68 rfl rfl) rfl
theorem k_ln6_31 : k_lk 6 (31, 1, 71, 0, 0) := k_l1 k_M71 rfl (k_in 5 63 rfl rfl) rfl
theorem k_ln6_34 : k_lk 6 (34, 0, 0, 5, 0) := k_l0 k_cc0 rfl (k_in 2 124 rfl rfl)
theorem k_ln6_40 : k_lk 6 (40, 0, 5, 1, 0) := k_l0 k_cc5 rfl (k_in 2 67 rfl rfl)
theorem k_ln6_45 : k_lk 6 (45, 1, 68, 0, 0) := k_l1 k_M68 rfl (k_in 5 21 rfl rfl) rfl
theorem k_ln6_49 : k_lk 6 (49, 1, 69, 0, 0) := k_l1 k_M69 rfl (k_in 5 69 rfl rfl) rfl
theorem k_ln6_52 : k_lk 6 (52, 1, 72, 0, 0) := k_l1 k_M72 rfl (k_in 5 73 rfl rfl) rfl
theorem k_ln6_56 : k_lk 6 (56, 1, 76, 0, 0) := k_l1 k_M76 rfl (k_in 5 77 rfl rfl) rfl
theorem k_ln6_60 : k_lk 6 (60, 1, 67, 0, 0) := k_l1 k_M67 rfl (k_in 5 81 rfl rfl) rfl
theorem k_ln6_64 : k_lk 6 (64, 2, 182, 1, 0) := k_l2 k_M182 rfl (k_inN 6 54 rfl rfl) rfl
theorem k_ln6_68 : k_lk 6 (68, 0, 0, 3, 0) := k_l0 k_cc0 rfl (k_in 2 119 rfl rfl)
theorem k_ln6_72 : k_lk 6 (72, 0, 5, 7, 0) := k_l0 k_cc5 rfl (k_in 2 85 rfl rfl)
theorem k_ln6_76 : k_lk 6 (76, 2, 183, 1, 0) := k_l2 k_M183 rfl (k_inN 6 55 rfl rfl) rfl
theorem k_ln6_79 : k_lk 6 (79, 1, 6, 0, 0) := k_l1 k_M6 rfl (k_in 6 56 rfl rfl) rfl
theorem k_ln6_83 : k_lk 6 (83, 0, 6, 3, 0) := k_l0 k_cc6 rfl (k_in 2 161 rfl rfl)
theorem k_ln6_86 : k_lk 6 (86, 0, 6, 4, 0) := k_l0 k_cc6 rfl (k_in 2 164 rfl rfl)
theorem k_ln6_90 : k_lk 6 (90, 1, 2, 0, 0) := k_l1 k_M2 rfl (k_in 5 29 rfl rfl) rfl
theorem k_ln6_94 : k_lk 6 (94, 2, 122, 1, 0) := k_l2 k_M122 rfl (k_inN 5 30 rfl rfl) rfl
theorem k_ln6_98 : k_lk 6 (98, 2, 120, 1, 0) := k_l2 k_M120 rfl (k_inN 5 31 rfl rfl) rfl
theorem k_ln6_102 : k_lk 6 (102, 1, 78, 0, 0) := k_l1 k_M78 rfl (k_in 6 61 rfl rfl) rfl
theorem k_ln6_106 : k_lk 6 (106, 1, 77, 0, 0) := k_l1 k_M77 rfl (k_in 6 62 rfl rfl) rfl
theorem k_ln6_109 : k_lk 6 (109, 1, 360, 1, 0) := k_l1 k_M360 rfl (k_in 6 63 rfl rfl) rfl
theorem k_ln6_115 : k_lk 6 (115, 1, 357, 1, 0) := k_l1 k_M357 rfl (k_in 6 64 rfl rfl) rfl
theorem k_lA6_0 : k_allL 6 k_lI6_0 := ⟨k_ln6_3, k_ln6_9, k_ln6_15, k_ln6_19, k_ln6_22, k_ln6_28, k_ln6_31, k_ln6_34, k_ln6_40, k_ln6_45, k_ln6_49, k_ln6_52, k_ln6_56, k_ln6_60, k_ln6_64, k_ln6_68, k_ln6_72, k_ln6_76, k_ln6_79, k_ln6_83, k_ln6_86, k_ln6_90, k_ln6_94, k_ln6_98, k_ln6_102, k_ln6_106, k_ln6_109, k_ln6_115, trivial⟩
theorem k_lA6 : ∀ z ∈ k_lI6, k_lk 6 z := by
  intro z hz
  unfold k_lI6 at hz
  · exact k_allL_ok k_lA6_0 z hz
theorem k_ln7_3 : k_lk 7 (3, 5, 0, 0, 0) := k_l5 (k_in 3 52 rfl rfl)
theorem k_ln7_9 : k_lk 7 (9, 3, 6, 5, 0) := k_l3 k_cc6 (k_in 3 53 rfl rfl) (k_in 2 147 rfl rfl) (k_in 1 13 rfl rfl)
theorem k_ln7_11 : k_lk 7 (11, 2, 70, 2, 0) := k_l2 k_M70 rfl (k_inN 3 54 rfl rfl) rfl
theorem k_ln7_12 : k_lk 7 (12, 0, 7, 1, 0) := k_l0 k_cc7 rfl (k_in 3 56 rfl rfl)
theorem k_ln7_18 : k_lk 7 (18, 0, 7, 2, 0) := k_l0 k_cc7 rfl (k_in 3 57 rfl rfl)
theorem k_ln7_22 : k_lk 7 (22, 0, 7, 3, 0) := k_l0 k_cc7 rfl (k_in 3 58 rfl rfl)
theorem k_ln7_25 : k_lk 7 (25, 0, 7, 4, 0) := k_l0 k_cc7 rfl (k_in 3 59 rfl rfl)
theorem k_ln7_28 : k_lk 7 (28, 0, 7, 5, 0) := k_l0 k_cc7 rfl (k_in 3 60 rfl rfl)
theorem k_ln7_31 : k_lk 7 (31, 0, 7, 6, 0) := k_l0 k_cc7 rfl (k_in 3 61 rfl rfl)
theorem k_ln7_34 : k_lk 7 (34, 0, 7, 7, 0) := k_l0 k_cc7 rfl (k_in 3 62 rfl rfl)
theorem k_ln7_38 : k_lk 7 (38, 0, 7, 0, 0) := k_l0 k_cc7 rfl (k_in 3 55 rfl rfl)
theorem k_ln7_42 : k_lk 7 (42, 1, 82, 0, 0) := k_l1 k_M82 rfl (k_in 6 219 rfl rfl) rfl
theorem k_ln7_46 : k_lk 7 (46, 1, 84, 0, 0) := k_l1 k_M84 rfl (k_in 6 234 rfl rfl) rfl
theorem k_ln7_50 : k_lk 7 (50, 0, 0, 3, 0) := k_l0 k_cc0 rfl (k_in 2 118 rfl rfl)
theorem k_ln7_56 : k_lk 7 (56, 1, 67, 0, 0) := k_l1 k_M67 rfl (k_in 6 223 rfl rfl) rfl
theorem k_ln7_62 : k_lk 7 (62, 1, 374, 1, 0) := k_l1 k_M374 rfl (k_in 6 224 rfl rfl) rfl
theorem k_ln7_68 : k_lk 7 (68, 0, 0, 5, 0) := k_l0 k_cc0 rfl (k_in 2 123 rfl rfl)
theorem k_ln7_72 : k_lk 7 (72, 2, 121, 1, 0) := k_l2 k_M121 rfl (k_inN 6 225 rfl rfl) rfl
theorem k_ln7_76 : k_lk 7 (76, 1, 68, 0, 0) := k_l1 k_M68 rfl (k_in 6 226 rfl rfl) rfl
theorem k_ln7_80 : k_lk 7 (80, 1, 69, 0, 0) := k_l1 k_M69 rfl (k_in 6 227 rfl rfl) rfl
theorem k_ln7_83 : k_lk 7 (83, 0, 0, 2, 0) := k_l0 k_cc0 rfl (k_in 2 113 rfl rfl)
theorem k_ln7_87 : k_lk 7 (87, 0, 3, 7, 0) := k_l0 k_cc3 rfl (k_in 2 34 rfl rfl)
theorem k_ln7_92 : k_lk 7 (92, 1, 83, 0, 0) := k_l1 k_M83 rfl (k_in 6 228 rfl rfl) rfl
theorem k_ln7_96 : k_lk 7 (96, 0, 3, 2, 0) := k_l0 k_cc3 rfl (k_in 2 28 rfl rfl)
theorem k_ln7_100 : k_lk 7 (100, 0, 5, 1, 0) := k_l0 k_cc5 rfl (k_in 2 68 rfl rfl)
theorem k_ln7_103 : k_lk 7 (103, 1, 2, 0, 0) := k_l1 k_M2 rfl (k_in 6 232 rfl rfl) rfl
theorem k_ln7_106 : k_lk 7 (106, 2, 122, 1, 0) := k_l2 k_M122 rfl (k_inN 6 233 rfl rfl) rfl
theorem k_ln7_109 : k_lk 7 (109, 0, 6, 0, 0) := k_l0 k_cc6 rfl (k_in 2 153 rfl rfl)
theorem k_ln7_110 : k_lk 7 (110, 0, 6, 1, 0) := k_l0 k_cc6 rfl (k_in 2 156 rfl rfl)
theorem k_ln7_113 : k_lk 7 (113, 1, 85, 0, 0) := k_l1 k_M85 rfl (k_in 6 238 rfl rfl) rfl
theorem k_ln7_117 : k_lk 7 (117, 1, 39, 0, 0) := k_l1 k_M39 rfl (k_in 7 2 rfl rfl) rfl
theorem k_ln7_121 : k_lk 7 (121, 1, 40, 0, 0) := k_l1 k_M40 rfl (k_in 7 10 rfl rfl) rfl
theorem k_ln7_125 : k_lk 7 (125, 1, 81, 0, 0) := k_l1 k_M81 rfl (k_in 7 24 rfl rfl) rfl
theorem k_ln7_128 : k_lk 7 (128, 1, 87, 0, 0) := k_l1 k_M87 rfl (k_in 7 25 rfl rfl) rfl
theorem k_ln7_132 : k_lk 7 (132, 0, 7, 8, 0) := k_l0 k_cc7 rfl (k_in 3 63 rfl rfl)
theorem k_ln7_135 : k_lk 7 (135, 0, 7, 9, 0) := k_l0 k_cc7 rfl (k_in 3 65 rfl rfl)
theorem k_ln7_138 : k_lk 7 (138, 0, 7, 10, 0) := k_l0 k_cc7 rfl (k_in 3 67 rfl rfl)
theorem k_lA7_0 : k_allL 7 k_lI7_0 := ⟨k_ln7_3, k_ln7_9, k_ln7_11, k_ln7_12, k_ln7_18, k_ln7_22, k_ln7_25, k_ln7_28, k_ln7_31, k_ln7_34, k_ln7_38, k_ln7_42, k_ln7_46, k_ln7_50, k_ln7_56, k_ln7_62, k_ln7_68, k_ln7_72, k_ln7_76, k_ln7_80, k_ln7_83, k_ln7_87, k_ln7_92, k_ln7_96, k_ln7_100, k_ln7_103, k_ln7_106, k_ln7_109, k_ln7_110, k_ln7_113, trivial⟩
theorem k_lA7_1 : k_allL 7 k_lI7_1 := ⟨k_ln7_117, k_ln7_121, k_ln7_125, k_ln7_128, k_ln7_132, k_ln7_135, k_ln7_138, trivial⟩
theorem k_lA7 : ∀ z ∈ k_lI7, k_lk 7 z := by
  intro z hz
  unfold k_lI7 at hz
  simp only [List.mem_append] at hz
  rcases hz with hz | hz
  · exact k_allL_ok k_lA7_0 z hz
  · exact k_allL_ok k_lA7_1 z hz
theorem k_ln8_3 : k_lk 8 (3, 5, 0, 0, 0) := k_l5 (k_in 1 230 rfl rfl)
theorem k_ln8_9 : k_lk 8 (9, 0, 8, 0, 0) := k_l0 k_cc8 rfl (k_in 1 231 rfl rfl)
theorem k_ln8_15 : k_lk 8 (15, 0, 8, 1, 0) := k_l0 k_cc8 rfl (k_in 1 233 rfl rfl)
theorem k_ln8_19 : k_lk 8 (19, 0, 8, 2, 0) := k_l0 k_cc8 rfl (k_in 1 235 rfl rfl)
theorem k_ln8_22 : k_lk 8 (22, 0, 8, 3, 0) := k_l0 k_cc8 rfl (k_in 1 237 rfl rfl)
theorem k_ln8_25 : k_lk 8 (25, 0, 8, 4, 0) := k_l0 k_cc8 rfl (k_in 1 239 rfl rfl)
theorem k_ln8_29 : k_lk 8 (29, 6, 0, 0, 0) := k_l6 (k_in 7 50 rfl rfl)
theorem k_ln8_35 : k_lk 8 (35, 0, 8, 6, 0) := k_l0 k_cc8 rfl (k_in 2 2 rfl rfl)
theorem k_ln8_39 : k_lk 8 (39, 0, 8, 5, 0) := k_l0 k_cc8 rfl (k_in 2 0 rfl rfl)
theorem k_ln8_42 : k_lk 8 (42, 1, 51, 0, 0) := k_l1 k_M51 rfl (k_in 6 86 rfl rfl) rfl
theorem k_ln8_48 : k_lk 8 (48, 1, 55, 0, 0) := k_l1 k_M55 rfl (k_in 6 87 rfl rfl) rfl
theorem k_ln8_52 : k_lk 8 (52, 1, 91, 0, 0) := k_l1 k_M91 rfl (k_in 6 88 rfl rfl) rfl
theorem k_ln8_56 : k_lk 8 (56, 1, 92, 0, 0) := k_l1 k_M92 rfl (k_in 6 95 rfl rfl) rfl
theorem k_ln8_60 : k_lk 8 (60, 1, 58, 0, 0) := k_l1 k_M58 rfl (k_in 6 92 rfl rfl) rfl
theorem k_ln8_64 : k_lk 8 (64, 1, 57, 0, 0) := k_l1 k_M57 rfl (k_in 6 93 rfl rfl) rfl
theorem k_ln8_67 : k_lk 8 (67, 1, 59, 0, 0) := k_l1 k_M59 rfl (k_in 6 94 rfl rfl) rfl
theorem k_ln8_71 : k_lk 8 (71, 9, 0, 0, 8) := k_l9 (k_in 6 99 rfl rfl)
theorem k_ln8_73 : k_lk 8 (73, 9, 0, 0, 18) := k_l9 (k_in 6 100 rfl rfl)
theorem k_ln8_75 : k_lk 8 (75, 2, 120, 1, 0) := k_l2 k_M120 rfl (k_inN 6 101 rfl rfl) rfl
theorem k_ln8_79 : k_lk 8 (79, 1, 93, 0, 0) := k_l1 k_M93 rfl (k_in 6 102 rfl rfl) rfl
theorem k_ln8_83 : k_lk 8 (83, 0, 2, 0, 0) := k_l0 k_cc2 rfl (k_in 1 166 rfl rfl)
theorem k_ln8_89 : k_lk 8 (89, 0, 2, 9, 0) := k_l0 k_cc2 rfl (k_in 1 182 rfl rfl)
theorem k_ln8_92 : k_lk 8 (92, 1, 61, 0, 0) := k_l1 k_M61 rfl (k_in 6 106 rfl rfl) rfl
theorem k_ln8_96 : k_lk 8 (96, 0, 2, 1, 0) := k_l0 k_cc2 rfl (k_in 1 168 rfl rfl)
theorem k_ln8_99 : k_lk 8 (99, 0, 2, 10, 0) := k_l0 k_cc2 rfl (k_in 1 188 rfl rfl)
theorem k_ln8_102 : k_lk 8 (102, 1, 94, 1, 0) := k_l1 k_M94 rfl (k_in 6 113 rfl rfl) rfl
theorem k_ln8_106 : k_lk 8 (106, 1, 60, 0, 0) := k_l1 k_M60 rfl (k_in 6 116 rfl rfl) rfl
theorem k_ln8_110 : k_lk 8 (110, 1, 52, 0, 0) := k_l1 k_M52 rfl (k_in 6 117 rfl rfl) rfl
theorem k_lA8_0 : k_allL 8 k_lI8_0 := ⟨k_ln8_3, k_ln8_9, k_ln8_15, k_ln8_19, k_ln8_22, k_ln8_25, k_ln8_29, k_ln8_35, k_ln8_39, k_ln8_42, k_ln8_48, k_ln8_52, k_ln8_56, k_ln8_60, k_ln8_64, k_ln8_67, k_ln8_71, k_ln8_73, k_ln8_75, k_ln8_79, k_ln8_83, k_ln8_89, k_ln8_92, k_ln8_96, k_ln8_99, k_ln8_102, k_ln8_106, k_ln8_110, trivial⟩
theorem k_lA8 : ∀ z ∈ k_lI8, k_lk 8 z := by
  intro z hz
  unfold k_lI8 at hz
  · exact k_allL_ok k_lA8_0 z hz
theorem k_ln9_3 : k_lk 9 (3, 5, 0, 0, 0) := k_l5 (k_in 2 184 rfl rfl)
theorem k_ln9_9 : k_lk 9 (9, 0, 9, 2, 0) := k_l0 k_cc9 rfl (k_in 2 187 rfl rfl)
theorem k_ln9_15 : k_lk 9 (15, 0, 9, 3, 0) := k_l0 k_cc9 rfl (k_in 2 188 rfl rfl)
theorem k_ln9_18 : k_lk 9 (18, 0, 9, 4, 0) := k_l0 k_cc9 rfl (k_in 2 189 rfl rfl)
theorem k_ln9_21 : k_lk 9 (21, 0, 9, 5, 0) := k_l0 k_cc9 rfl (k_in 2 190 rfl rfl)
theorem k_ln9_25 : k_lk 9 (25, 0, 9, 9, 0) := k_l0 k_cc9 rfl (k_in 2 194 rfl rfl)
theorem k_ln9_28 : k_lk 9 (28, 0, 9, 0, 0) := k_l0 k_cc9 rfl (k_in 2 185 rfl rfl)
theorem k_ln9_32 : k_lk 9 (32, 0, 9, 1, 0) := k_l0 k_cc9 rfl (k_in 2 186 rfl rfl)
theorem k_ln9_36 : k_lk 9 (36, 1, 75, 0, 0) := k_l1 k_M75 rfl (k_in 5 146 rfl rfl) rfl
theorem k_ln9_42 : k_lk 9 (42, 0, 6, 3, 0) := k_l0 k_cc6 rfl (k_in 2 160 rfl rfl)
theorem k_ln9_46 : k_lk 9 (46, 9, 0, 0, (-1)) := k_l9 (k_in 5 147 rfl rfl)
theorem k_ln9_48 : k_lk 9 (48, 9, 0, 0, 60) := k_l9 (k_in 5 148 rfl rfl)
theorem k_ln9_50 : k_lk 9 (50, 0, 6, 4, 0) := k_l0 k_cc6 rfl (k_in 2 163 rfl rfl)
theorem k_ln9_54 : k_lk 9 (54, 0, 0, 3, 0) := k_l0 k_cc0 rfl (k_in 2 117 rfl rfl)
theorem k_ln9_60 : k_lk 9 (60, 0, 5, 3, 0) := k_l0 k_cc5 rfl (k_in 2 75 rfl rfl)
theorem k_ln9_65 : k_lk 9 (65, 0, 5, 4, 0) := k_l0 k_cc5 rfl (k_in 2 78 rfl rfl)
theorem k_ln9_68 : k_lk 9 (68, 1, 96, 0, 0) := k_l1 k_M96 rfl (k_in 5 142 rfl rfl) rfl
theorem k_ln9_72 : k_lk 9 (72, 0, 9, 6, 0) := k_l0 k_cc9 rfl (k_in 2 191 rfl rfl)
theorem k_ln9_75 : k_lk 9 (75, 1, 97, 0, 0) := k_l1 k_M97 rfl (k_in 5 138 rfl rfl) rfl
theorem k_ln9_79 : k_lk 9 (79, 0, 0, 0, 0) := k_l0 k_cc0 rfl (k_in 2 106 rfl rfl)
theorem k_ln9_83 : k_lk 9 (83, 0, 2, 9, 0) := k_l0 k_cc2 rfl (k_in 1 180 rfl rfl)
theorem k_ln9_88 : k_lk 9 (88, 0, 5, 0, 0) := k_l0 k_cc5 rfl (k_in 2 63 rfl rfl)
theorem k_ln9_91 : k_lk 9 (91, 2, 122, 1, 0) := k_l2 k_M122 rfl (k_inN 5 149 rfl rfl) rfl
theorem k_ln9_94 : k_lk 9 (94, 0, 9, 7, 0) := k_l0 k_cc9 rfl (k_in 2 192 rfl rfl)
theorem k_ln9_97 : k_lk 9 (97, 0, 9, 8, 0) := k_l0 k_cc9 rfl (k_in 2 193 rfl rfl)
theorem k_ln9_100 : k_lk 9 (100, 1, 100, 0, 0) := k_l1 k_M100 rfl (k_in 5 150 rfl rfl) rfl
theorem k_ln9_104 : k_lk 9 (104, 1, 99, 0, 0) := k_l1 k_M99 rfl (k_in 5 159 rfl rfl) rfl
theorem k_ln9_108 : k_lk 9 (108, 0, 9, 10, 0) := k_l0 k_cc9 rfl (k_in 2 196 rfl rfl)
theorem k_ln9_112 : k_lk 9 (112, 0, 9, 11, 0) := k_l0 k_cc9 rfl (k_in 2 198 rfl rfl)
theorem k_ln9_115 : k_lk 9 (115, 0, 9, 12, 0) := k_l0 k_cc9 rfl (k_in 2 199 rfl rfl)
theorem k_ln9_118 : k_lk 9 (118, 0, 9, 13, 0) := k_l0 k_cc9 rfl (k_in 2 201 rfl rfl)
theorem k_ln9_119 : k_lk 9 (119, 0, 9, 14, 0) := k_l0 k_cc9 rfl (k_in 2 203 rfl rfl)
theorem k_ln9_122 : k_lk 9 (122, 1, 374, 1, 0) := k_l1 k_M374 rfl (k_in 5 163 rfl rfl) rfl
theorem k_ln9_128 : k_lk 9 (128, 1, 101, 0, 0) := k_l1 k_M101 rfl (k_in 5 154 rfl rfl) rfl
theorem k_ln9_131 : k_lk 9 (131, 6, 0, 0, 0) := k_l6 (k_in 5 158 rfl rfl)
theorem k_ln9_137 : k_lk 9 (137, 0, 9, 15, 0) := k_l0 k_cc9 rfl (k_in 2 205 rfl rfl)
theorem k_lA9_0 : k_allL 9 k_lI9_0 := ⟨k_ln9_3, k_ln9_9, k_ln9_15, k_ln9_18, k_ln9_21, k_ln9_25, k_ln9_28, k_ln9_32, k_ln9_36, k_ln9_42, k_ln9_46, k_ln9_48, k_ln9_50, k_ln9_54, k_ln9_60, k_ln9_65, k_ln9_68, k_ln9_72, k_ln9_75, k_ln9_79, k_ln9_83, k_ln9_88, k_ln9_91, k_ln9_94, k_ln9_97, k_ln9_100, k_ln9_104, k_ln9_108, k_ln9_112, k_ln9_115, trivial⟩
theorem k_lA9_1 : k_allL 9 k_lI9_1 := ⟨k_ln9_118, k_ln9_119, k_ln9_122, k_ln9_128, k_ln9_131, k_ln9_137, trivial⟩
theorem k_lA9 : ∀ z ∈ k_lI9, k_lk 9 z := by
  intro z hz
  unfold k_lI9 at hz
  simp only [List.mem_append] at hz
  rcases hz with hz | hz
  · exact k_allL_ok k_lA9_0 z hz
  · exact k_allL_ok k_lA9_1 z hz
theorem k_ln10_3 : k_lk 10 (3, 5, 0, 0, 0) := k_l5 (k_in 3 5 rfl rfl)
theorem k_ln10_9 : k_lk 10 (9, 3, 5, 8, 0) := k_l3 k_cc5 (k_in 3 6 rfl rfl) (k_in 2 54 rfl rfl) (k_in 1 12 rfl rfl)
theorem k_ln10_11 : k_lk 10 (11, 2, 62, 2, 0) := k_l2 k_M62 rfl (k_inN 3 7 rfl rfl) rfl
theorem k_ln10_12 : k_lk 10 (12, 0, 10, 2, 0) := k_l0 k_cc10 rfl (k_in 3 12 rfl rfl)
theorem k_ln10_18 : k_lk 10 (18, 3, 1, 2, 0) := k_l3 k_cc1 (k_in 3 8 rfl rfl) (k_in 1 30 rfl rfl) (k_in 1 2 rfl rfl)
theorem k_ln10_20 : k_lk 10 (20, 2, 7, 2, 0) := k_l2 k_M7 rfl (k_inN 3 9 rfl rfl) rfl
theorem k_ln10_21 : k_lk 10 (21, 0, 10, 7, 0) := k_l0 k_cc10 rfl (k_in 3 20 rfl rfl)
theorem k_ln10_25 : k_lk 10 (25, 0, 10, 0, 0) := k_l0 k_cc10 rfl (k_in 3 10 rfl rfl)
theorem k_ln10_29 : k_lk 10 (29, 0, 10, 1, 0) := k_l0 k_cc10 rfl (k_in 3 11 rfl rfl)
theorem k_ln10_33 : k_lk 10 (33, 0, 10, 3, 0) := k_l0 k_cc10 rfl (k_in 3 13 rfl rfl)
theorem k_ln10_37 : k_lk 10 (37, 0, 10, 4, 0) := k_l0 k_cc10 rfl (k_in 3 14 rfl rfl)
theorem k_ln10_41 : k_lk 10 (41, 0, 10, 5, 0) := k_l0 k_cc10 rfl (k_in 3 16 rfl rfl)
theorem k_ln10_44 : k_lk 10 (44, 0, 10, 6, 0) := k_l0 k_cc10 rfl (k_in 3 18 rfl rfl)
theorem k_ln10_47 : k_lk 10 (47, 1, 9, 0, 0) := k_l1 k_M9 rfl (k_in 6 126 rfl rfl) rfl
theorem k_ln10_51 : k_lk 10 (51, 0, 10, 8, 0) := k_l0 k_cc10 rfl (k_in 3 22 rfl rfl)
theorem k_ln10_54 : k_lk 10 (54, 0, 10, 9, 0) := k_l0 k_cc10 rfl (k_in 3 24 rfl rfl)
theorem k_ln10_57 : k_lk 10 (57, 0, 0, 3, 0) := k_l0 k_cc0 rfl (k_in 2 116 rfl rfl)
theorem k_ln10_62 : k_lk 10 (62, 1, 64, 0, 0) := k_l1 k_M64 rfl (k_in 6 127 rfl rfl) rfl
theorem k_ln10_66 : k_lk 10 (66, 0, 0, 1, 0) := k_l0 k_cc0 rfl (k_in 2 110 rfl rfl)
theorem k_ln10_70 : k_lk 10 (70, 0, 8, 6, 0) := k_l0 k_cc8 rfl (k_in 2 1 rfl rfl)
theorem k_ln10_75 : k_lk 10 (75, 1, 105, 0, 0) := k_l1 k_M105 rfl (k_in 6 128 rfl rfl) rfl
theorem k_ln10_79 : k_lk 10 (79, 1, 106, 0, 0) := k_l1 k_M106 rfl (k_in 6 132 rfl rfl) rfl
theorem k_ln10_83 : k_lk 10 (83, 0, 8, 0, 0) := k_l0 k_cc8 rfl (k_in 1 232 rfl rfl)
theorem k_ln10_87 : k_lk 10 (87, 1, 107, 0, 0) := k_l1 k_M107 rfl (k_in 6 136 rfl rfl) rfl
theorem k_ln10_91 : k_lk 10 (91, 0, 8, 3, 0) := k_l0 k_cc8 rfl (k_in 1 238 rfl rfl)
theorem k_ln10_94 : k_lk 10 (94, 0, 8, 1, 0) := k_l0 k_cc8 rfl (k_in 1 234 rfl rfl)
theorem k_ln10_98 : k_lk 10 (98, 1, 108, 0, 0) := k_l1 k_M108 rfl (k_in 6 140 rfl rfl) rfl
theorem k_ln10_102 : k_lk 10 (102, 1, 109, 0, 0) := k_l1 k_M109 rfl (k_in 6 145 rfl rfl) rfl
theorem k_ln10_105 : k_lk 10 (105, 0, 8, 2, 0) := k_l0 k_cc8 rfl (k_in 1 236 rfl rfl)
theorem k_ln10_108 : k_lk 10 (108, 1, 110, 0, 0) := k_l1 k_M110 rfl (k_in 6 156 rfl rfl) rfl
theorem k_ln10_111 : k_lk 10 (111, 0, 5, 1, 0) := k_l0 k_cc5 rfl (k_in 2 69 rfl rfl)
theorem k_ln10_114 : k_lk 10 (114, 0, 0, 0, 0) := k_l0 k_cc0 rfl (k_in 2 107 rfl rfl)
theorem k_ln10_118 : k_lk 10 (118, 0, 2, 10, 0) := k_l0 k_cc2 rfl (k_in 1 186 rfl rfl)
theorem k_ln10_123 : k_lk 10 (123, 0, 1, 0, 0) := k_l0 k_cc1 rfl (k_in 1 37 rfl rfl)
theorem k_ln10_127 : k_lk 10 (127, 1, 358, 1, 0) := k_l1 k_M358 rfl (k_in 6 144 rfl rfl) rfl
theorem k_ln10_133 : k_lk 10 (133, 0, 1, 1, 0) := k_l0 k_cc1 rfl (k_in 1 40 rfl rfl)
theorem k_ln10_136 : k_lk 10 (136, 1, 73, 0, 0) := k_l1 k_M73 rfl (k_in 6 149 rfl rfl) rfl
theorem k_ln10_142 : k_lk 10 (142, 1, 78, 0, 0) := k_l1 k_M78 rfl (k_in 6 150 rfl rfl) rfl
theorem k_ln10_145 : k_lk 10 (145, 1, 77, 0, 0) := k_l1 k_M77 rfl (k_in 6 151 rfl rfl) rfl
theorem k_ln10_147 : k_lk 10 (147, 1, 12, 0, 0) := k_l1 k_M12 rfl (k_in 6 152 rfl rfl) rfl
theorem k_ln10_151 : k_lk 10 (151, 0, 2, 9, 0) := k_l0 k_cc2 rfl (k_in 1 183 rfl rfl)
theorem k_ln10_154 : k_lk 10 (154, 2, 121, 1, 0) := k_l2 k_M121 rfl (k_inN 6 160 rfl rfl) rfl
theorem k_ln10_158 : k_lk 10 (158, 0, 5, 0, 0) := k_l0 k_cc5 rfl (k_in 2 64 rfl rfl)
theorem k_ln10_161 : k_lk 10 (161, 0, 5, 2, 0) := k_l0 k_cc5 rfl (k_in 2 72 rfl rfl)
theorem k_ln10_164 : k_lk 10 (164, 1, 65, 0, 0) := k_l1 k_M65 rfl (k_in 6 161 rfl rfl) rfl
theorem k_ln10_167 : k_lk 10 (167, 1, 66, 0, 0) := k_l1 k_M66 rfl (k_in 6 162 rfl rfl) rfl
theorem k_ln10_170 : k_lk 10 (170, 0, 5, 7, 0) := k_l0 k_cc5 rfl (k_in 2 86 rfl rfl)
theorem k_lA10_0 : k_allL 10 k_lI10_0 := ⟨k_ln10_3, k_ln10_9, k_ln10_11, k_ln10_12, k_ln10_18, k_ln10_20, k_ln10_21, k_ln10_25, k_ln10_29, k_ln10_33, k_ln10_37, k_ln10_41, k_ln10_44, k_ln10_47, k_ln10_51, k_ln10_54, k_ln10_57, k_ln10_62, k_ln10_66, k_ln10_70, k_ln10_75, k_ln10_79, k_ln10_83, k_ln10_87, k_ln10_91, k_ln10_94, k_ln10_98, k_ln10_102, k_ln10_105, k_ln10_108, trivial⟩
theorem k_lA10_1 : k_allL 10 k_lI10_1 := ⟨k_ln10_111, k_ln10_114, k_ln10_118, k_ln10_123, k_ln10_127, k_ln10_133, k_ln10_136, k_ln10_142, k_ln10_145, k_ln10_147, k_ln10_151, k_ln10_154, k_ln10_158, k_ln10_161, k_ln10_164, k_ln10_167, k_ln10_170, trivial⟩
theorem k_lA10 : ∀ z ∈ k_lI10, k_lk 10 z := by
  intro z hz
  unfold k_lI10 at hz
  simp only [List.mem_append] at hz
  rcases hz with hz | hz
  · exact k_allL_ok k_lA10_0 z hz
  · exact k_allL_ok k_lA10_1 z hz
theorem k_ln11_1 : k_lk 11 (1, 5, 0, 0, 0) := k_l5 (k_in 1 26 rfl rfl)
theorem k_ln11_7 : k_lk 11 (7, 3, 1, 2, 0) := k_l3 k_cc1 (k_in 1 29 rfl rfl) (k_in 1 30 rfl rfl) (k_in 1 2 rfl rfl)
theorem k_ln11_9 : k_lk 11 (9, 2, 7, 2, 0) := k_l2 k_M7 rfl (k_inN 1 31 rfl rfl) rfl
theorem k_ln11_10 : k_lk 11 (10, 0, 11, 1, 0) := k_l0 k_cc11 rfl (k_in 3 97 rfl rfl)
theorem k_ln11_16 : k_lk 11 (16, 0, 11, 2, 0) := k_l0 k_cc11 rfl (k_in 3 98 rfl rfl)
theorem k_ln11_21 : k_lk 11 (21, 0, 11, 3, 0) := k_l0 k_cc11 rfl (k_in 3 99 rfl rfl)
theorem k_ln11_24 : k_lk 11 (24, 0, 11, 4, 0) := k_l0 k_cc11 rfl (k_in 3 100 rfl rfl)
theorem k_ln11_28 : k_lk 11 (28, 0, 11, 5, 0) := k_l0 k_cc11 rfl (k_in 3 101 rfl rfl)
theorem k_ln11_31 : k_lk 11 (31, 0, 11, 6, 0) := k_l0 k_cc11 rfl (k_in 3 102 rfl rfl)
theorem k_ln11_35 : k_lk 11 (35, 3, 4, 12, 0) := k_l3 k_cc4 (k_in 1 48 rfl rfl) (k_in 1 49 rfl rfl) (k_in 1 3 rfl rfl)
theorem k_ln11_37 : k_lk 11 (37, 1, 41, 2, 0) := k_l1 k_M41 rfl (k_in 1 50 rfl rfl) rfl
theorem k_ln11_38 : k_lk 11 (38, 0, 11, 8, 0) := k_l0 k_cc11 rfl (k_in 3 104 rfl rfl)
theorem k_ln11_42 : k_lk 11 (42, 3, 0, 6, 0) := k_l3 k_cc0 (k_in 1 153 rfl rfl) (k_in 1 154 rfl rfl) (k_in 1 8 rfl rfl)
theorem k_ln11_44 : k_lk 11 (44, 2, 0, 2, 0) := k_l2 k_M0 rfl (k_inN 1 155 rfl rfl) rfl
theorem k_ln11_45 : k_lk 11 (45, 0, 11, 9, 0) := k_l0 k_cc11 rfl (k_in 3 105 rfl rfl)
theorem k_ln11_49 : k_lk 11 (49, 3, 2, 14, 0) := k_l3 k_cc2 (k_in 2 139 rfl rfl) (k_in 1 160 rfl rfl) (k_in 1 9 rfl rfl)
theorem k_ln11_51 : k_lk 11 (51, 2, 14, 2, 0) := k_l2 k_M14 rfl (k_inN 2 140 rfl rfl) rfl
theorem k_ln11_52 : k_lk 11 (52, 0, 11, 10, 0) := k_l0 k_cc11 rfl (k_in 3 106 rfl rfl)
theorem k_ln11_56 : k_lk 11 (56, 3, 8, 7, 0) := k_l3 k_cc8 (k_in 2 141 rfl rfl) (k_in 1 226 rfl rfl) (k_in 1 10 rfl rfl)
theorem k_ln11_58 : k_lk 11 (58, 2, 88, 2, 0) := k_l2 k_M88 rfl (k_inN 2 142 rfl rfl) rfl
theorem k_ln11_59 : k_lk 11 (59, 0, 11, 11, 0) := k_l0 k_cc11 rfl (k_in 3 107 rfl rfl)
theorem k_ln11_63 : k_lk 11 (63, 3, 3, 8, 0) := k_l3 k_cc3 (k_in 2 143 rfl rfl) (k_in 2 20 rfl rfl) (k_in 1 11 rfl rfl)
theorem k_ln11_65 : k_lk 11 (65, 2, 31, 2, 0) := k_l2 k_M31 rfl (k_inN 2 144 rfl rfl) rfl
theorem k_ln11_66 : k_lk 11 (66, 0, 11, 12, 0) := k_l0 k_cc11 rfl (k_in 3 108 rfl rfl)
theorem k_ln11_70 : k_lk 11 (70, 0, 11, 13, 0) := k_l0 k_cc11 rfl (k_in 3 109 rfl rfl)
theorem k_ln11_74 : k_lk 11 (74, 3, 6, 5, 0) := k_l3 k_cc6 (k_in 2 146 rfl rfl) (k_in 2 147 rfl rfl) (k_in 1 13 rfl rfl)
theorem k_ln11_76 : k_lk 11 (76, 2, 70, 2, 0) := k_l2 k_M70 rfl (k_inN 2 148 rfl rfl) rfl
theorem k_ln11_77 : k_lk 11 (77, 0, 11, 15, 0) := k_l0 k_cc11 rfl (k_in 3 111 rfl rfl)
theorem k_ln11_81 : k_lk 11 (81, 3, 5, 8, 0) := k_l3 k_cc5 (k_in 2 177 rfl rfl) (k_in 2 54 rfl rfl) (k_in 1 12 rfl rfl)
theorem k_ln11_83 : k_lk 11 (83, 2, 62, 2, 0) := k_l2 k_M62 rfl (k_inN 2 178 rfl rfl) rfl
theorem k_ln11_84 : k_lk 11 (84, 0, 11, 16, 0) := k_l0 k_cc11 rfl (k_in 3 112 rfl rfl)
theorem k_ln11_88 : k_lk 11 (88, 3, 9, 16, 0) := k_l3 k_cc9 (k_in 2 179 rfl rfl) (k_in 2 180 rfl rfl) (k_in 1 14 rfl rfl)
theorem k_ln11_90 : k_lk 11 (90, 1, 95, 2, 0) := k_l1 k_M95 rfl (k_in 2 181 rfl rfl) rfl
theorem k_ln11_93 : k_lk 11 (93, 0, 11, 17, 0) := k_l0 k_cc11 rfl (k_in 3 113 rfl rfl)
theorem k_ln11_97 : k_lk 11 (97, 3, 10, 10, 0) := k_l3 k_cc10 (k_in 3 0 rfl rfl) (k_in 3 1 rfl rfl) (k_in 1 15 rfl rfl)
theorem k_ln11_99 : k_lk 11 (99, 1, 103, 2, 0) := k_l1 k_M103 rfl (k_in 3 2 rfl rfl) rfl
theorem k_ln11_100 : k_lk 11 (100, 0, 11, 18, 0) := k_l0 k_cc11 rfl (k_in 3 114 rfl rfl)
theorem k_ln11_104 : k_lk 11 (104, 3, 7, 11, 0) := k_l3 k_cc7 (k_in 3 47 rfl rfl) (k_in 3 48 rfl rfl) (k_in 1 16 rfl rfl)
theorem k_ln11_106 : k_lk 11 (106, 1, 80, 2, 0) := k_l1 k_M80 rfl (k_in 3 49 rfl rfl) rfl
theorem k_ln11_109 : k_lk 11 (109, 0, 11, 19, 0) := k_l0 k_cc11 rfl (k_in 3 115 rfl rfl)
theorem k_ln11_113 : k_lk 11 (113, 1, 374, 1, 0) := k_l1 k_M374 rfl (k_in 3 93 rfl rfl) rfl
theorem k_ln11_119 : k_lk 11 (119, 0, 11, 0, 0) := k_l0 k_cc11 rfl (k_in 3 96 rfl rfl)
theorem k_ln11_123 : k_lk 11 (123, 0, 1, 0, 0) := k_l0 k_cc1 rfl (k_in 1 36 rfl rfl)
theorem k_ln11_127 : k_lk 11 (127, 0, 1, 1, 0) := k_l0 k_cc1 rfl (k_in 1 39 rfl rfl)
theorem k_ln11_130 : k_lk 11 (130, 1, 9, 0, 0) := k_l1 k_M9 rfl (k_in 5 40 rfl rfl) rfl
theorem k_ln11_134 : k_lk 11 (134, 1, 117, 0, 0) := k_l1 k_M117 rfl (k_in 3 184 rfl rfl) rfl
theorem k_ln11_138 : k_lk 11 (138, 9, 0, 0, 3) := k_l9 (k_in 3 173 rfl rfl)
theorem k_ln11_140 : k_lk 11 (140, 1, 120, 1, 0) := k_l1 k_M120 rfl (k_in 3 174 rfl rfl) rfl
theorem k_ln11_144 : k_lk 11 (144, 1, 115, 0, 0) := k_l1 k_M115 rfl (k_in 3 177 rfl rfl) rfl
theorem k_ln11_148 : k_lk 11 (148, 1, 373, 1, 0) := k_l1 k_M373 rfl (k_in 3 181 rfl rfl) rfl
theorem k_ln11_151 : k_lk 11 (151, 1, 124, 0, 0) := k_l1 k_M124 rfl (k_in 3 192 rfl rfl) rfl
theorem k_ln11_155 : k_lk 11 (155, 1, 126, 1, 0) := k_l1 k_M126 rfl (k_in 3 196 rfl rfl) rfl
theorem k_ln11_159 : k_lk 11 (159, 9, 0, 0, (-1)) := k_l9 (k_in 3 203 rfl rfl)
theorem k_ln11_161 : k_lk 11 (161, 6, 0, 0, 0) := k_l6 (k_in 3 208 rfl rfl)
theorem k_ln11_167 : k_lk 11 (167, 0, 11, 7, 0) := k_l0 k_cc11 rfl (k_in 3 103 rfl rfl)
theorem k_ln11_170 : k_lk 11 (170, 1, 130, 0, 0) := k_l1 k_M130 rfl (k_in 3 215 rfl rfl) rfl
theorem k_ln11_174 : k_lk 11 (174, 1, 43, 0, 0) := k_l1 k_M43 rfl (k_in 3 231 rfl rfl) rfl
theorem k_ln11_178 : k_lk 11 (178, 1, 116, 0, 0) := k_l1 k_M116 rfl (k_in 3 223 rfl rfl) rfl
theorem k_ln11_182 : k_lk 11 (182, 1, 131, 0, 0) := k_l1 k_M131 rfl (k_in 3 227 rfl rfl) rfl
theorem k_ln11_185 : k_lk 11 (185, 1, 16, 0, 0) := k_l1 k_M16 rfl (k_in 4 24 rfl rfl) rfl
theorem k_ln11_189 : k_lk 11 (189, 0, 4, 10, 0) := k_l0 k_cc4 rfl (k_in 1 121 rfl rfl)
theorem k_ln11_192 : k_lk 11 (192, 0, 0, 0, 0) := k_l0 k_cc0 rfl (k_in 2 108 rfl rfl)
theorem k_ln11_195 : k_lk 11 (195, 0, 0, 5, 0) := k_l0 k_cc0 rfl (k_in 2 125 rfl rfl)
theorem k_ln11_198 : k_lk 11 (198, 0, 0, 3, 0) := k_l0 k_cc0 rfl (k_in 2 120 rfl rfl)
theorem k_ln11_201 : k_lk 11 (201, 0, 2, 9, 0) := k_l0 k_cc2 rfl (k_in 1 184 rfl rfl)
theorem k_ln11_204 : k_lk 11 (204, 0, 2, 10, 0) := k_l0 k_cc2 rfl (k_in 1 190 rfl rfl)
theorem k_ln11_207 : k_lk 11 (207, 1, 63, 0, 0) := k_l1 k_M63 rfl (k_in 4 112 rfl rfl) rfl
theorem k_ln11_211 : k_lk 11 (211, 1, 118, 0, 0) := k_l1 k_M118 rfl (k_in 4 124 rfl rfl) rfl
theorem k_ln11_214 : k_lk 11 (214, 0, 4, 11, 0) := k_l0 k_cc4 rfl (k_in 1 123 rfl rfl)
theorem k_ln11_217 : k_lk 11 (217, 0, 2, 12, 0) := k_l0 k_cc2 rfl (k_in 1 194 rfl rfl)
theorem k_ln11_220 : k_lk 11 (220, 0, 2, 11, 0) := k_l0 k_cc2 rfl (k_in 1 192 rfl rfl)
theorem k_ln11_223 : k_lk 11 (223, 1, 121, 1, 0) := k_l1 k_M121 rfl (k_in 4 230 rfl rfl) rfl
theorem k_ln11_226 : k_lk 11 (226, 1, 138, 0, 0) := k_l1 k_M138 rfl (k_in 4 140 rfl rfl) rfl
theorem k_ln11_229 : k_lk 11 (229, 0, 2, 3, 0) := k_l0 k_cc2 rfl (k_in 1 172 rfl rfl)
theorem k_ln11_232 : k_lk 11 (232, 0, 2, 4, 0) := k_l0 k_cc2 rfl (k_in 1 174 rfl rfl)
theorem k_ln11_235 : k_lk 11 (235, 1, 137, 0, 0) := k_l1 k_M137 rfl (k_in 4 148 rfl rfl) rfl
theorem k_ln11_238 : k_lk 11 (238, 1, 135, 0, 0) := k_l1 k_M135 rfl (k_in 4 152 rfl rfl) rfl
theorem k_ln11_241 : k_lk 11 (241, 1, 136, 0, 0) := k_l1 k_M136 rfl (k_in 4 156 rfl rfl) rfl
theorem k_ln11_244 : k_lk 11 (244, 1, 141, 1, 0) := k_l1 k_M141 rfl (k_in 4 160 rfl rfl) rfl
theorem k_ln11_248 : k_lk 11 (248, 9, 0, 0, 99) := k_l9 (k_in 4 163 rfl rfl)
theorem k_ln11_250 : k_lk 11 (250, 1, 28, 0, 0) := k_l1 k_M28 rfl (k_in 4 164 rfl rfl) rfl
theorem k_ln11_254 : k_lk 11 (254, 1, 4, 0, 0) := k_l1 k_M4 rfl (k_in 4 186 rfl rfl) rfl
theorem k_ln11_258 : k_lk 11 (258, 1, 5, 0, 0) := k_l1 k_M5 rfl (k_in 4 195 rfl rfl) rfl
theorem k_ln11_262 : k_lk 11 (262, 1, 139, 0, 0) := k_l1 k_M139 rfl (k_in 4 207 rfl rfl) rfl
theorem k_ln11_265 : k_lk 11 (265, 9, 0, 0, 5) := k_l9 (k_in 4 211 rfl rfl)
theorem k_ln11_267 : k_lk 11 (267, 1, 2, 0, 0) := k_l1 k_M2 rfl (k_in 4 212 rfl rfl) rfl
theorem k_ln11_270 : k_lk 11 (270, 9, 0, 0, 999) := k_l9 (k_in 4 220 rfl rfl)
theorem k_ln11_272 : k_lk 11 (272, 1, 3, 0, 0) := k_l1 k_M3 rfl (k_in 4 221 rfl rfl) rfl
theorem k_ln11_276 : k_lk 11 (276, 1, 140, 0, 0) := k_l1 k_M140 rfl (k_in 4 226 rfl rfl) rfl
theorem k_ln11_279 : k_lk 11 (279, 0, 5, 0, 0) := k_l0 k_cc5 rfl (k_in 2 65 rfl rfl)
theorem k_ln11_282 : k_lk 11 (282, 0, 5, 1, 0) := k_l0 k_cc5 rfl (k_in 2 70 rfl rfl)
theorem k_ln11_285 : k_lk 11 (285, 0, 5, 2, 0) := k_l0 k_cc5 rfl (k_in 2 73 rfl rfl)
theorem k_ln11_288 : k_lk 11 (288, 1, 65, 0, 0) := k_l1 k_M65 rfl (k_in 4 239 rfl rfl) rfl
theorem k_ln11_291 : k_lk 11 (291, 1, 66, 0, 0) := k_l1 k_M66 rfl (k_in 5 0 rfl rfl) rfl
theorem k_ln11_294 : k_lk 11 (294, 0, 5, 7, 0) := k_l0 k_cc5 rfl (k_in 2 87 rfl rfl)
theorem k_ln11_298 : k_lk 11 (298, 0, 5, 3, 0) := k_l0 k_cc5 rfl (k_in 2 76 rfl rfl)
theorem k_ln11_301 : k_lk 11 (301, 0, 5, 4, 0) := k_l0 k_cc5 rfl (k_in 2 79 rfl rfl)
theorem k_ln11_304 : k_lk 11 (304, 0, 5, 5, 0) := k_l0 k_cc5 rfl (k_in 2 81 rfl rfl)
theorem k_ln11_307 : k_lk 11 (307, 0, 5, 6, 0) := k_l0 k_cc5 rfl (k_in 2 83 rfl rfl)
theorem k_ln11_310 : k_lk 11 (310, 1, 75, 0, 0) := k_l1 k_M75 rfl (k_in 5 17 rfl rfl) rfl
theorem k_ln11_314 : k_lk 11 (314, 1, 153, 0, 0) := k_l1 k_M153 rfl (k_in 5 13 rfl rfl) rfl
theorem k_ln11_318 : k_lk 11 (318, 0, 6, 3, 0) := k_l0 k_cc6 rfl (k_in 2 162 rfl rfl)
theorem k_ln11_321 : k_lk 11 (321, 0, 6, 4, 0) := k_l0 k_cc6 rfl (k_in 2 165 rfl rfl)
theorem k_ln11_324 : k_lk 11 (324, 1, 119, 0, 0) := k_l1 k_M119 rfl (k_in 5 36 rfl rfl) rfl
theorem k_ln11_328 : k_lk 11 (328, 1, 73, 0, 0) := k_l1 k_M73 rfl (k_in 5 59 rfl rfl) rfl
theorem k_ln11_332 : k_lk 11 (332, 1, 156, 0, 0) := k_l1 k_M156 rfl (k_in 5 55 rfl rfl) rfl
theorem k_ln11_335 : k_lk 11 (335, 1, 78, 0, 0) := k_l1 k_M78 rfl (k_in 5 91 rfl rfl) rfl
theorem k_ln11_338 : k_lk 11 (338, 1, 77, 0, 0) := k_l1 k_M77 rfl (k_in 5 95 rfl rfl) rfl
theorem k_ln11_340 : k_lk 11 (340, 1, 142, 0, 0) := k_l1 k_M142 rfl (k_in 5 107 rfl rfl) rfl
theorem k_ln11_343 : k_lk 11 (343, 1, 64, 0, 0) := k_l1 k_M64 rfl (k_in 5 115 rfl rfl) rfl
theorem k_ln11_347 : k_lk 11 (347, 1, 122, 1, 0) := k_l1 k_M122 rfl (k_in 5 119 rfl rfl) rfl
theorem k_ln11_350 : k_lk 11 (350, 1, 22, 0, 0) := k_l1 k_M22 rfl (k_in 5 120 rfl rfl) rfl
theorem k_ln11_353 : k_lk 11 (353, 1, 11, 0, 0) := k_l1 k_M11 rfl (k_in 5 121 rfl rfl) rfl
theorem k_ln11_356 : k_lk 11 (356, 1, 158, 0, 0) := k_l1 k_M158 rfl (k_in 5 103 rfl rfl) rfl
theorem k_ln11_359 : k_lk 11 (359, 1, 159, 0, 0) := k_l1 k_M159 rfl (k_in 5 111 rfl rfl) rfl
theorem k_ln11_363 : k_lk 11 (363, 9, 0, 0, 8) := k_l9 (k_in 5 133 rfl rfl)
theorem k_ln11_365 : k_lk 11 (365, 1, 98, 0, 0) := k_l1 k_M98 rfl (k_in 5 134 rfl rfl) rfl
theorem k_ln11_368 : k_lk 11 (368, 0, 9, 14, 0) := k_l0 k_cc9 rfl (k_in 2 204 rfl rfl)
theorem k_ln11_371 : k_lk 11 (371, 0, 9, 10, 0) := k_l0 k_cc9 rfl (k_in 2 197 rfl rfl)
theorem k_ln11_374 : k_lk 11 (374, 0, 9, 13, 0) := k_l0 k_cc9 rfl (k_in 2 202 rfl rfl)
theorem k_ln11_375 : k_lk 11 (375, 0, 9, 9, 0) := k_l0 k_cc9 rfl (k_in 2 195 rfl rfl)
theorem k_ln11_378 : k_lk 11 (378, 1, 102, 0, 0) := k_l1 k_M102 rfl (k_in 5 172 rfl rfl) rfl
theorem k_ln11_381 : k_lk 11 (381, 0, 9, 15, 0) := k_l0 k_cc9 rfl (k_in 2 206 rfl rfl)
theorem k_ln11_384 : k_lk 11 (384, 9, 0, 0, 60) := k_l9 (k_in 5 176 rfl rfl)
theorem k_ln11_386 : k_lk 11 (386, 0, 9, 12, 0) := k_l0 k_cc9 rfl (k_in 2 200 rfl rfl)
theorem k_ln11_389 : k_lk 11 (389, 9, 0, 0, (-9999)) := k_l9 (k_in 5 181 rfl rfl)
theorem k_ln11_391 : k_lk 11 (391, 9, 0, 0, 9999) := k_l9 (k_in 5 182 rfl rfl)
theorem k_ln11_393 : k_lk 11 (393, 1, 76, 0, 0) := k_l1 k_M76 rfl (k_in 5 183 rfl rfl) rfl
theorem k_ln11_396 : k_lk 11 (396, 1, 13, 0, 0) := k_l1 k_M13 rfl (k_in 5 188 rfl rfl) rfl
theorem k_ln11_399 : k_lk 11 (399, 1, 67, 0, 0) := k_l1 k_M67 rfl (k_in 5 196 rfl rfl) rfl
theorem k_ln11_402 : k_lk 11 (402, 1, 168, 0, 0) := k_l1 k_M168 rfl (k_in 5 197 rfl rfl) rfl
theorem k_ln11_406 : k_lk 11 (406, 0, 6, 0, 0) := k_l0 k_cc6 rfl (k_in 2 154 rfl rfl)
theorem k_ln11_409 : k_lk 11 (409, 0, 6, 1, 0) := k_l0 k_cc6 rfl (k_in 2 157 rfl rfl)
theorem k_ln11_413 : k_lk 11 (413, 1, 10, 0, 0) := k_l1 k_M10 rfl (k_in 5 201 rfl rfl) rfl
theorem k_ln11_415 : k_lk 11 (415, 9, 0, 0, 50) := k_l9 (k_in 5 210 rfl rfl)
theorem k_ln11_417 : k_lk 11 (417, 0, 6, 2, 0) := k_l0 k_cc6 rfl (k_in 2 159 rfl rfl)
theorem k_ln11_420 : k_lk 11 (420, 9, 0, 0, 4) := k_l9 (k_in 5 219 rfl rfl)
theorem k_ln11_422 : k_lk 11 (422, 1, 360, 1, 0) := k_l1 k_M360 rfl (k_in 5 220 rfl rfl) rfl
theorem k_ln11_428 : k_lk 11 (428, 1, 172, 0, 0) := k_l1 k_M172 rfl (k_in 5 225 rfl rfl) rfl
theorem k_ln11_431 : k_lk 11 (431, 9, 0, 0, 2) := k_l9 (k_in 6 1 rfl rfl)
theorem k_ln11_433 : k_lk 11 (433, 1, 175, 0, 0) := k_l1 k_M175 rfl (k_in 5 237 rfl rfl) rfl
theorem k_ln11_436 : k_lk 11 (436, 1, 179, 0, 0) := k_l1 k_M179 rfl (k_in 6 14 rfl rfl) rfl
theorem k_ln11_440 : k_lk 11 (440, 1, 178, 0, 0) := k_l1 k_M178 rfl (k_in 6 10 rfl rfl) rfl
theorem k_ln11_444 : k_lk 11 (444, 4, 0, 0, 65536) := k_l4 (k_in 6 29 rfl rfl)
theorem k_ln11_445 : k_lk 11 (445, 1, 182, 1, 0) := k_l1 k_M182 rfl (k_in 6 26 rfl rfl) rfl
theorem k_ln11_448 : k_lk 11 (448, 1, 183, 1, 0) := k_l1 k_M183 rfl (k_in 6 30 rfl rfl) rfl
theorem k_ln11_451 : k_lk 11 (451, 1, 6, 0, 0) := k_l1 k_M6 rfl (k_in 6 33 rfl rfl) rfl
theorem k_ln11_453 : k_lk 11 (453, 1, 185, 1, 0) := k_l1 k_M185 rfl (k_in 6 43 rfl rfl) rfl
theorem k_ln11_456 : k_lk 11 (456, 1, 187, 0, 0) := k_l1 k_M187 rfl (k_in 6 46 rfl rfl) rfl
theorem k_ln11_460 : k_lk 11 (460, 1, 362, 1, 0) := k_l1 k_M362 rfl (k_in 6 67 rfl rfl) rfl
theorem k_ln11_463 : k_lk 11 (463, 1, 74, 0, 0) := k_l1 k_M74 rfl (k_in 6 50 rfl rfl) rfl
theorem k_ln11_466 : k_lk 11 (466, 1, 79, 0, 0) := k_l1 k_M79 rfl (k_in 6 57 rfl rfl) rfl
theorem k_ln11_469 : k_lk 11 (469, 1, 358, 1, 0) := k_l1 k_M358 rfl (k_in 6 72 rfl rfl) rfl
theorem k_ln11_473 : k_lk 11 (473, 1, 361, 1, 0) := k_l1 k_M361 rfl (k_in 6 81 rfl rfl) rfl
theorem k_ln11_475 : k_lk 11 (475, 1, 189, 0, 0) := k_l1 k_M189 rfl (k_in 6 77 rfl rfl) rfl
theorem k_ln11_478 : k_lk 11 (478, 1, 90, 0, 0) := k_l1 k_M90 rfl (k_in 6 82 rfl rfl) rfl
theorem k_ln11_481 : k_lk 11 (481, 0, 0, 1, 0) := k_l0 k_cc0 rfl (k_in 2 111 rfl rfl)
theorem k_ln11_484 : k_lk 11 (484, 0, 8, 6, 0) := k_l0 k_cc8 rfl (k_in 2 3 rfl rfl)
theorem k_ln11_487 : k_lk 11 (487, 1, 104, 0, 0) := k_l1 k_M104 rfl (k_in 6 122 rfl rfl) rfl
theorem k_ln11_490 : k_lk 11 (490, 0, 10, 5, 0) := k_l0 k_cc10 rfl (k_in 3 17 rfl rfl)
theorem k_ln11_493 : k_lk 11 (493, 0, 10, 4, 0) := k_l0 k_cc10 rfl (k_in 3 15 rfl rfl)
theorem k_ln11_494 : k_lk 11 (494, 0, 10, 7, 0) := k_l0 k_cc10 rfl (k_in 3 21 rfl rfl)
theorem k_ln11_497 : k_lk 11 (497, 0, 10, 6, 0) := k_l0 k_cc10 rfl (k_in 3 19 rfl rfl)
theorem k_ln11_500 : k_lk 11 (500, 0, 10, 8, 0) := k_l0 k_cc10 rfl (k_in 3 23 rfl rfl)
theorem k_ln11_503 : k_lk 11 (503, 0, 10, 9, 0) := k_l0 k_cc10 rfl (k_in 3 25 rfl rfl)
theorem k_ln11_506 : k_lk 11 (506, 1, 33, 0, 0) := k_l1 k_M33 rfl (k_in 6 171 rfl rfl) rfl
theorem k_ln11_507 : k_lk 11 (507, 0, 0, 2, 0) := k_l0 k_cc0 rfl (k_in 2 114 rfl rfl)
theorem k_ln11_510 : k_lk 11 (510, 0, 3, 7, 0) := k_l0 k_cc3 rfl (k_in 2 35 rfl rfl)
theorem k_ln11_513 : k_lk 11 (513, 1, 194, 0, 0) := k_l1 k_M194 rfl (k_in 6 211 rfl rfl) rfl
theorem k_ln11_516 : k_lk 11 (516, 1, 81, 0, 0) := k_l1 k_M81 rfl (k_in 6 215 rfl rfl) rfl
theorem k_ln11_519 : k_lk 11 (519, 1, 86, 0, 0) := k_l1 k_M86 rfl (k_in 7 20 rfl rfl) rfl
theorem k_ln11_521 : k_lk 11 (521, 0, 7, 8, 0) := k_l0 k_cc7 rfl (k_in 3 64 rfl rfl)
theorem k_ln11_524 : k_lk 11 (524, 0, 7, 9, 0) := k_l0 k_cc7 rfl (k_in 3 66 rfl rfl)
theorem k_ln11_527 : k_lk 11 (527, 0, 7, 10, 0) := k_l0 k_cc7 rfl (k_in 3 68 rfl rfl)
theorem k_ln11_530 : k_lk 11 (530, 0, 11, 14, 0) := k_l0 k_cc11 rfl (k_in 3 110 rfl rfl)
theorem k_ln11_533 : k_lk 11 (533, 1, 1, 0, 0) := k_l1 k_M1 rfl (k_in 7 37 rfl rfl) rfl
theorem k_lA11_0 : k_allL 11 k_lI11_0 := ⟨k_ln11_1, k_ln11_7, k_ln11_9, k_ln11_10, k_ln11_16, k_ln11_21, k_ln11_24, k_ln11_28, k_ln11_31, k_ln11_35, k_ln11_37, k_ln11_38, k_ln11_42, k_ln11_44, k_ln11_45, k_ln11_49, k_ln11_51, k_ln11_52, k_ln11_56, k_ln11_58, k_ln11_59, k_ln11_63, k_ln11_65, k_ln11_66, k_ln11_70, k_ln11_74, k_ln11_76, k_ln11_77, k_ln11_81, k_ln11_83, trivial⟩
theorem k_lA11_1 : k_allL 11 k_lI11_1 := ⟨k_ln11_84, k_ln11_88, k_ln11_90, k_ln11_93, k_ln11_97, k_ln11_99, k_ln11_100, k_ln11_104, k_ln11_106, k_ln11_109, k_ln11_113, k_ln11_119, k_ln11_123, k_ln11_127, k_ln11_130, k_ln11_134, k_ln11_138, k_ln11_140, k_ln11_144, k_ln11_148, k_ln11_151, k_ln11_155, k_ln11_159, k_ln11_161, k_ln11_167, k_ln11_170, k_ln11_174, k_ln11_178, k_ln11_182, k_ln11_185, trivial⟩
theorem k_lA11_2 : k_allL 11 k_lI11_2 := ⟨k_ln11_189, k_ln11_192, k_ln11_195, k_ln11_198, k_ln11_201, k_ln11_204, k_ln11_207, k_ln11_211, k_ln11_214, k_ln11_217, k_ln11_220, k_ln11_223, k_ln11_226, k_ln11_229, k_ln11_232, k_ln11_235, k_ln11_238, k_ln11_241, k_ln11_244, k_ln11_248, k_ln11_250, k_ln11_254, k_ln11_258, k_ln11_262, k_ln11_265, k_ln11_267, k_ln11_270, k_ln11_272, k_ln11_276, k_ln11_279, trivial⟩
theorem k_lA11_3 : k_allL 11 k_lI11_3 := ⟨k_ln11_282, k_ln11_285, k_ln11_288, k_ln11_291, k_ln11_294, k_ln11_298, k_ln11_301, k_ln11_304, k_ln11_307, k_ln11_310, k_ln11_314, k_ln11_318, k_ln11_321, k_ln11_324, k_ln11_328, k_ln11_332, k_ln11_335, k_ln11_338, k_ln11_340, k_ln11_343, k_ln11_347, k_ln11_350, k_ln11_353, k_ln11_356, k_ln11_359, k_ln11_363, k_ln11_365, k_ln11_368, k_ln11_371, k_ln11_374, trivial⟩
theorem k_lA11_4 : k_allL 11 k_lI11_4 := ⟨k_ln11_375, k_ln11_378, k_ln11_381, k_ln11_384, k_ln11_386, k_ln11_389, k_ln11_391, k_ln11_393, k_ln11_396, k_ln11_399, k_ln11_402, k_ln11_406, k_ln11_409, k_ln11_413, k_ln11_415, k_ln11_417, k_ln11_420, k_ln11_422, k_ln11_428, k_ln11_431, k_ln11_433, k_ln11_436, k_ln11_440, k_ln11_444, k_ln11_445, k_ln11_448, k_ln11_451, k_ln11_453, k_ln11_456, k_ln11_460, trivial⟩
theorem k_lA11_5 : k_allL 11 k_lI11_5 := ⟨k_ln11_463, k_ln11_466, k_ln11_469, k_ln11_473, k_ln11_475, k_ln11_478, k_ln11_481, k_ln11_484, k_ln11_487, k_ln11_490, k_ln11_493, k_ln11_494, k_ln11_497, k_ln11_500, k_ln11_503, k_ln11_506, k_ln11_507, k_ln11_510, k_ln11_513, k_ln11_516, k_ln11_519, k_ln11_521, k_ln11_524, k_ln11_527, k_ln11_530, k_ln11_533, trivial⟩
theorem k_lA11 : ∀ z ∈ k_lI11, k_lk 11 z := by
  intro z hz
  unfold k_lI11 at hz
  simp only [List.mem_append] at hz
  rcases hz with hz | hz | hz | hz | hz | hz
  · exact k_allL_ok k_lA11_0 z hz
  · exact k_allL_ok k_lA11_1 z hz
  · exact k_allL_ok k_lA11_2 z hz
  · exact k_allL_ok k_lA11_3 z hz
  · exact k_allL_ok k_lA11_4 z hz
  · exact k_allL_ok k_lA11_5 z hz
theorem k_ln12_1 : k_lk 12 (1, 5, 0, 0, 0) := k_l5 (k_in 7 67 rfl rfl)
theorem k_ln12_7 : k_lk 12 (7, 0, 12, 3, 0) := k_l0 k_cc12 rfl (k_in 7 75 rfl rfl)
theorem k_ln12_13 : k_lk 12 (13, 0, 12, 4, 0) := k_l0 k_cc12 rfl (k_in 7 76 rfl rfl)
theorem k_ln12_17 : k_lk 12 (17, 0, 12, 5, 0) := k_l0 k_cc12 rfl (k_in 7 77 rfl rfl)
theorem k_ln12_20 : k_lk 12 (20, 0, 12, 6, 0) := k_l0 k_cc12 rfl (k_in 7 78 rfl rfl)
theorem k_ln12_24 : k_lk 12 (24, 0, 12, 7, 0) := k_l0 k_cc12 rfl (k_in 7 79 rfl rfl)
theorem k_ln12_28 : k_lk 12 (28, 0, 12, 10, 0) := k_l0 k_cc12 rfl (k_in 7 82 rfl rfl)
theorem k_ln12_32 : k_lk 12 (32, 0, 12, 11, 0) := k_l0 k_cc12 rfl (k_in 7 83 rfl rfl)
theorem k_ln12_35 : k_lk 12 (35, 0, 12, 22, 0) := k_l0 k_cc12 rfl (k_in 7 94 rfl rfl)
theorem k_ln12_38 : k_lk 12 (38, 0, 12, 23, 0) := k_l0 k_cc12 rfl (k_in 7 95 rfl rfl)
theorem k_ln12_41 : k_lk 12 (41, 0, 12, 24, 0) := k_l0 k_cc12 rfl (k_in 7 96 rfl rfl)
theorem k_ln12_44 : k_lk 12 (44, 0, 12, 26, 0) := k_l0 k_cc12 rfl (k_in 7 98 rfl rfl)
theorem k_ln12_47 : k_lk 12 (47, 0, 12, 27, 0) := k_l0 k_cc12 rfl (k_in 7 99 rfl rfl)
theorem k_ln12_50 : k_lk 12 (50, 0, 12, 28, 0) := k_l0 k_cc12 rfl (k_in 7 100 rfl rfl)
theorem k_ln12_53 : k_lk 12 (53, 0, 12, 31, 0) := k_l0 k_cc12 rfl (k_in 7 103 rfl rfl)
theorem k_ln12_56 : k_lk 12 (56, 0, 12, 32, 0) := k_l0 k_cc12 rfl (k_in 7 104 rfl rfl)
theorem k_ln12_59 : k_lk 12 (59, 0, 12, 33, 0) := k_l0 k_cc12 rfl (k_in 7 105 rfl rfl)
theorem k_ln12_62 : k_lk 12 (62, 0, 12, 34, 0) := k_l0 k_cc12 rfl (k_in 7 106 rfl rfl)
theorem k_ln12_65 : k_lk 12 (65, 0, 12, 35, 0) := k_l0 k_cc12 rfl (k_in 7 107 rfl rfl)
theorem k_ln12_68 : k_lk 12 (68, 0, 12, 55, 0) := k_l0 k_cc12 rfl (k_in 7 127 rfl rfl)
theorem k_ln12_71 : k_lk 12 (71, 0, 12, 56, 0) := k_l0 k_cc12 rfl (k_in 7 128 rfl rfl)
theorem k_ln12_74 : k_lk 12 (74, 0, 12, 57, 0) := k_l0 k_cc12 rfl (k_in 7 129 rfl rfl)
theorem k_ln12_77 : k_lk 12 (77, 1, 249, 0, 0) := k_l1 k_M249 rfl (k_in 7 68 rfl rfl) rfl
theorem k_ln12_81 : k_lk 12 (81, 0, 12, 1, 0) := k_l0 k_cc12 rfl (k_in 7 73 rfl rfl)
theorem k_ln12_84 : k_lk 12 (84, 0, 12, 0, 0) := k_l0 k_cc12 rfl (k_in 7 72 rfl rfl)
theorem k_ln12_87 : k_lk 12 (87, 0, 12, 2, 0) := k_l0 k_cc12 rfl (k_in 7 74 rfl rfl)
theorem k_ln12_90 : k_lk 12 (90, 1, 358, 1, 0) := k_l1 k_M358 rfl (k_in 9 76 rfl rfl) rfl
theorem k_ln12_96 : k_lk 12 (96, 1, 207, 1, 0) := k_l1 k_M207 rfl (k_in 9 73 rfl rfl) rfl
theorem k_ln12_100 : k_lk 12 (100, 1, 205, 0, 0) := k_l1 k_M205 rfl (k_in 8 23 rfl rfl) rfl
theorem k_ln12_104 : k_lk 12 (104, 1, 211, 0, 0) := k_l1 k_M211 rfl (k_in 8 35 rfl rfl) rfl
theorem k_ln12_108 : k_lk 12 (108, 1, 212, 0, 0) := k_l1 k_M212 rfl (k_in 8 31 rfl rfl) rfl
theorem k_ln12_112 : k_lk 12 (112, 1, 209, 1, 0) := k_l1 k_M209 rfl (k_in 8 39 rfl rfl) rfl
theorem k_ln12_116 : k_lk 12 (116, 9, 0, 0, (-1)) := k_l9 (k_in 8 46 rfl rfl)
theorem k_ln12_118 : k_lk 12 (118, 9, 0, 0, 3) := k_l9 (k_in 8 218 rfl rfl)
theorem k_ln12_120 : k_lk 12 (120, 1, 206, 1, 0) := k_l1 k_M206 rfl (k_in 8 145 rfl rfl) rfl
theorem k_ln12_124 : k_lk 12 (124, 0, 12, 9, 0) := k_l0 k_cc12 rfl (k_in 7 81 rfl rfl)
theorem k_ln12_127 : k_lk 12 (127, 0, 12, 16, 0) := k_l0 k_cc12 rfl (k_in 7 88 rfl rfl)
theorem k_ln12_130 : k_lk 12 (130, 0, 12, 15, 0) := k_l0 k_cc12 rfl (k_in 7 87 rfl rfl)
theorem k_ln12_133 : k_lk 12 (133, 1, 218, 0, 0) := k_l1 k_M218 rfl (k_in 8 71 rfl rfl) rfl
theorem k_ln12_136 : k_lk 12 (136, 0, 12, 14, 0) := k_l0 k_cc12 rfl (k_in 7 86 rfl rfl)
theorem k_ln12_139 : k_lk 12 (139, 1, 219, 1, 0) := k_l1 k_M219 rfl (k_in 8 75 rfl rfl) rfl
theorem k_ln12_142 : k_lk 12 (142, 0, 12, 21, 0) := k_l0 k_cc12 rfl (k_in 7 93 rfl rfl)
theorem k_ln12_145 : k_lk 12 (145, 9, 0, 0, 32) := k_l9 (k_in 8 78 rfl rfl)
theorem k_ln12_147 : k_lk 12 (147, 9, 0, 0, 96) := k_l9 (k_in 8 79 rfl rfl)
theorem k_ln12_149 : k_lk 12 (149, 0, 12, 18, 0) := k_l0 k_cc12 rfl (k_in 7 90 rfl rfl)
theorem k_ln12_152 : k_lk 12 (152, 1, 220, 1, 0) := k_l1 k_M220 rfl (k_in 8 80 rfl rfl) rfl
theorem k_ln12_155 : k_lk 12 (155, 0, 12, 17, 0) := k_l0 k_cc12 rfl (k_in 7 89 rfl rfl)
theorem k_ln12_158 : k_lk 12 (158, 1, 221, 1, 0) := k_l1 k_M221 rfl (k_in 8 83 rfl rfl) rfl
theorem k_ln12_161 : k_lk 12 (161, 1, 224, 1, 0) := k_l1 k_M224 rfl (k_in 8 90 rfl rfl) rfl
theorem k_ln12_165 : k_lk 12 (165, 1, 225, 0, 0) := k_l1 k_M225 rfl (k_in 8 93 rfl rfl) rfl
theorem k_ln12_169 : k_lk 12 (169, 1, 226, 0, 0) := k_l1 k_M226 rfl (k_in 8 86 rfl rfl) rfl
theorem k_ln12_173 : k_lk 12 (173, 1, 227, 0, 0) := k_l1 k_M227 rfl (k_in 8 113 rfl rfl) rfl
theorem k_ln12_176 : k_lk 12 (176, 1, 230, 0, 0) := k_l1 k_M230 rfl (k_in 8 109 rfl rfl) rfl
theorem k_ln12_180 : k_lk 12 (180, 1, 228, 0, 0) := k_l1 k_M228 rfl (k_in 8 117 rfl rfl) rfl
theorem k_ln12_183 : k_lk 12 (183, 1, 229, 0, 0) := k_l1 k_M229 rfl (k_in 8 121 rfl rfl) rfl
theorem k_ln12_186 : k_lk 12 (186, 0, 12, 12, 0) := k_l0 k_cc12 rfl (k_in 7 84 rfl rfl)
theorem k_ln12_189 : k_lk 12 (189, 0, 12, 13, 0) := k_l0 k_cc12 rfl (k_in 7 85 rfl rfl)
theorem k_ln12_192 : k_lk 12 (192, 1, 232, 0, 0) := k_l1 k_M232 rfl (k_in 8 101 rfl rfl) rfl
theorem k_ln12_196 : k_lk 12 (196, 1, 222, 0, 0) := k_l1 k_M222 rfl (k_in 8 67 rfl rfl) rfl
theorem k_ln12_199 : k_lk 12 (199, 1, 233, 0, 0) := k_l1 k_M233 rfl (k_in 8 125 rfl rfl) rfl
theorem k_ln12_202 : k_lk 12 (202, 0, 12, 8, 0) := k_l0 k_cc12 rfl (k_in 7 80 rfl rfl)
theorem k_ln12_205 : k_lk 12 (205, 1, 237, 0, 0) := k_l1 k_M237 rfl (k_in 8 55 rfl rfl) rfl
theorem k_ln12_208 : k_lk 12 (208, 1, 240, 0, 0) := k_l1 k_M240 rfl (k_in 8 133 rfl rfl) rfl
theorem k_ln12_212 : k_lk 12 (212, 1, 231, 0, 0) := k_l1 k_M231 rfl (k_in 8 105 rfl rfl) rfl
theorem k_ln12_215 : k_lk 12 (215, 1, 241, 0, 0) := k_l1 k_M241 rfl (k_in 8 129 rfl rfl) rfl
theorem k_ln12_218 : k_lk 12 (218, 1, 235, 0, 0) := k_l1 k_M235 rfl (k_in 8 141 rfl rfl) rfl
theorem k_ln12_221 : k_lk 12 (221, 0, 12, 19, 0) := k_l0 k_cc12 rfl (k_in 7 91 rfl rfl)
theorem k_ln12_224 : k_lk 12 (224, 1, 244, 0, 0) := k_l1 k_M244 rfl (k_in 8 164 rfl rfl) rfl
theorem k_ln12_227 : k_lk 12 (227, 1, 223, 0, 0) := k_l1 k_M223 rfl (k_in 8 168 rfl rfl) rfl
theorem k_ln12_230 : k_lk 12 (230, 0, 12, 20, 0) := k_l0 k_cc12 rfl (k_in 7 92 rfl rfl)
theorem k_ln12_233 : k_lk 12 (233, 1, 247, 0, 0) := k_l1 k_M247 rfl (k_in 8 152 rfl rfl) rfl
theorem k_ln12_236 : k_lk 12 (236, 1, 234, 0, 0) := k_l1 k_M234 rfl (k_in 8 172 rfl rfl) rfl
theorem k_ln12_240 : k_lk 12 (240, 1, 245, 0, 0) := k_l1 k_M245 rfl (k_in 8 160 rfl rfl) rfl
theorem k_ln12_243 : k_lk 12 (243, 1, 246, 0, 0) := k_l1 k_M246 rfl (k_in 8 156 rfl rfl) rfl
theorem k_ln12_246 : k_lk 12 (246, 1, 242, 0, 0) := k_l1 k_M242 rfl (k_in 8 97 rfl rfl) rfl
theorem k_ln12_250 : k_lk 12 (250, 1, 238, 0, 0) := k_l1 k_M238 rfl (k_in 8 63 rfl rfl) rfl
theorem k_ln12_254 : k_lk 12 (254, 1, 243, 0, 0) := k_l1 k_M243 rfl (k_in 8 137 rfl rfl) rfl
theorem k_ln12_257 : k_lk 12 (257, 1, 248, 0, 0) := k_l1 k_M248 rfl (k_in 8 148 rfl rfl) rfl
theorem k_ln12_260 : k_lk 12 (260, 1, 239, 0, 0) := k_l1 k_M239 rfl (k_in 8 176 rfl rfl) rfl
theorem k_ln12_263 : k_lk 12 (263, 9, 0, 0, 4) := k_l9 (k_in 8 188 rfl rfl)
theorem k_ln12_265 : k_lk 12 (265, 1, 204, 0, 0) := k_l1 k_M204 rfl (k_in 8 189 rfl rfl) rfl
theorem k_ln12_268 : k_lk 12 (268, 1, 254, 0, 0) := k_l1 k_M254 rfl (k_in 8 197 rfl rfl) rfl
theorem k_ln12_271 : k_lk 12 (271, 1, 259, 1, 0) := k_l1 k_M259 rfl (k_in 8 224 rfl rfl) rfl
theorem k_ln12_275 : k_lk 12 (275, 1, 260, 0, 0) := k_l1 k_M260 rfl (k_in 8 227 rfl rfl) rfl
theorem k_ln12_278 : k_lk 12 (278, 9, 0, 0, 999) := k_l9 (k_in 8 231 rfl rfl)
theorem k_ln12_280 : k_lk 12 (280, 1, 362, 1, 0) := k_l1 k_M362 rfl (k_in 8 232 rfl rfl) rfl
theorem k_ln12_283 : k_lk 12 (283, 1, 360, 1, 0) := k_l1 k_M360 rfl (k_in 8 233 rfl rfl) rfl
theorem k_ln12_286 : k_lk 12 (286, 1, 255, 0, 0) := k_l1 k_M255 rfl (k_in 8 205 rfl rfl) rfl
theorem k_ln12_289 : k_lk 12 (289, 1, 252, 0, 0) := k_l1 k_M252 rfl (k_in 8 209 rfl rfl) rfl
theorem k_ln12_292 : k_lk 12 (292, 1, 253, 0, 0) := k_l1 k_M253 rfl (k_in 8 213 rfl rfl) rfl
theorem k_ln12_295 : k_lk 12 (295, 9, 0, 0, 11) := k_l9 (k_in 8 217 rfl rfl)
theorem k_ln12_297 : k_lk 12 (297, 9, 0, 0, 99) := k_l9 (k_in 8 219 rfl rfl)
theorem k_ln12_299 : k_lk 12 (299, 1, 261, 0, 0) := k_l1 k_M261 rfl (k_in 8 220 rfl rfl) rfl
theorem k_ln12_303 : k_lk 12 (303, 1, 217, 0, 0) := k_l1 k_M217 rfl (k_in 8 238 rfl rfl) rfl
theorem k_ln12_306 : k_lk 12 (306, 1, 216, 0, 0) := k_l1 k_M216 rfl (k_in 9 2 rfl rfl) rfl
theorem k_ln12_310 : k_lk 12 (310, 1, 263, 0, 0) := k_l1 k_M263 rfl (k_in 9 6 rfl rfl) rfl
theorem k_ln12_313 : k_lk 12 (313, 1, 256, 0, 0) := k_l1 k_M256 rfl (k_in 9 14 rfl rfl) rfl
theorem k_ln12_316 : k_lk 12 (316, 9, 0, 0, 5) := k_l9 (k_in 9 18 rfl rfl)
theorem k_ln12_318 : k_lk 12 (318, 9, 0, 0, 15) := k_l9 (k_in 9 31 rfl rfl)
theorem k_ln12_320 : k_lk 12 (320, 9, 0, 0, 7) := k_l9 (k_in 9 44 rfl rfl)
theorem k_ln12_322 : k_lk 12 (322, 1, 272, 0, 0) := k_l1 k_M272 rfl (k_in 9 61 rfl rfl) rfl
theorem k_ln12_325 : k_lk 12 (325, 1, 273, 0, 0) := k_l1 k_M273 rfl (k_in 9 57 rfl rfl) rfl
theorem k_ln12_329 : k_lk 12 (329, 1, 275, 0, 0) := k_l1 k_M275 rfl (k_in 9 49 rfl rfl) rfl
theorem k_ln12_332 : k_lk 12 (332, 1, 274, 0, 0) := k_l1 k_M274 rfl (k_in 9 53 rfl rfl) rfl
theorem k_ln12_336 : k_lk 12 (336, 1, 208, 0, 0) := k_l1 k_M208 rfl (k_in 9 69 rfl rfl) rfl
theorem k_ln12_340 : k_lk 12 (340, 0, 12, 29, 0) := k_l0 k_cc12 rfl (k_in 7 101 rfl rfl)
theorem k_ln12_343 : k_lk 12 (343, 0, 12, 30, 0) := k_l0 k_cc12 rfl (k_in 7 102 rfl rfl)
theorem k_ln12_346 : k_lk 12 (346, 1, 280, 0, 0) := k_l1 k_M280 rfl (k_in 9 89 rfl rfl) rfl
theorem k_ln12_349 : k_lk 12 (349, 1, 281, 0, 0) := k_l1 k_M281 rfl (k_in 9 85 rfl rfl) rfl
theorem k_ln12_352 : k_lk 12 (352, 1, 278, 0, 0) := k_l1 k_M278 rfl (k_in 9 93 rfl rfl) rfl
theorem k_ln12_355 : k_lk 12 (355, 1, 279, 0, 0) := k_l1 k_M279 rfl (k_in 9 97 rfl rfl) rfl
theorem k_ln12_359 : k_lk 12 (359, 1, 282, 0, 0) := k_l1 k_M282 rfl (k_in 9 81 rfl rfl) rfl
theorem k_ln12_362 : k_lk 12 (362, 1, 284, 0, 0) := k_l1 k_M284 rfl (k_in 9 101 rfl rfl) rfl
theorem k_ln12_365 : k_lk 12 (365, 1, 283, 0, 0) := k_l1 k_M283 rfl (k_in 9 113 rfl rfl) rfl
theorem k_ln12_368 : k_lk 12 (368, 0, 12, 50, 0) := k_l0 k_cc12 rfl (k_in 7 122 rfl rfl)
theorem k_ln12_371 : k_lk 12 (371, 1, 286, 0, 0) := k_l1 k_M286 rfl (k_in 9 109 rfl rfl) rfl
theorem k_ln12_374 : k_lk 12 (374, 9, 0, 0, 60) := k_l9 (k_in 9 130 rfl rfl)
theorem k_ln12_376 : k_lk 12 (376, 0, 12, 39, 0) := k_l0 k_cc12 rfl (k_in 7 111 rfl rfl)
theorem k_ln12_379 : k_lk 12 (379, 0, 12, 38, 0) := k_l0 k_cc12 rfl (k_in 7 110 rfl rfl)
theorem k_ln12_382 : k_lk 12 (382, 0, 12, 36, 0) := k_l0 k_cc12 rfl (k_in 7 108 rfl rfl)
theorem k_ln12_385 : k_lk 12 (385, 0, 12, 40, 0) := k_l0 k_cc12 rfl (k_in 7 112 rfl rfl)
theorem k_ln12_388 : k_lk 12 (388, 1, 290, 0, 0) := k_l1 k_M290 rfl (k_in 9 131 rfl rfl) rfl
theorem k_ln12_391 : k_lk 12 (391, 9, 0, 0, 8) := k_l9 (k_in 9 125 rfl rfl)
theorem k_ln12_393 : k_lk 12 (393, 1, 289, 0, 0) := k_l1 k_M289 rfl (k_in 9 126 rfl rfl) rfl
theorem k_ln12_396 : k_lk 12 (396, 0, 12, 37, 0) := k_l0 k_cc12 rfl (k_in 7 109 rfl rfl)
theorem k_ln12_399 : k_lk 12 (399, 0, 12, 41, 0) := k_l0 k_cc12 rfl (k_in 7 113 rfl rfl)
theorem k_ln12_403 : k_lk 12 (403, 9, 0, 0, (-9999)) := k_l9 (k_in 9 147 rfl rfl)
theorem k_ln12_405 : k_lk 12 (405, 9, 0, 0, 9999) := k_l9 (k_in 9 148 rfl rfl)
theorem k_ln12_407 : k_lk 12 (407, 1, 294, 0, 0) := k_l1 k_M294 rfl (k_in 9 149 rfl rfl) rfl
theorem k_ln12_410 : k_lk 12 (410, 1, 297, 0, 0) := k_l1 k_M297 rfl (k_in 9 161 rfl rfl) rfl
theorem k_ln12_414 : k_lk 12 (414, 9, 0, 0, 50) := k_l9 (k_in 9 169 rfl rfl)
theorem k_ln12_416 : k_lk 12 (416, 1, 302, 0, 0) := k_l1 k_M302 rfl (k_in 9 182 rfl rfl) rfl
theorem k_ln12_419 : k_lk 12 (419, 1, 305, 0, 0) := k_l1 k_M305 rfl (k_in 9 194 rfl rfl) rfl
theorem k_ln12_422 : k_lk 12 (422, 1, 308, 0, 0) := k_l1 k_M308 rfl (k_in 9 210 rfl rfl) rfl
theorem k_ln12_425 : k_lk 12 (425, 1, 309, 0, 0) := k_l1 k_M309 rfl (k_in 9 206 rfl rfl) rfl
theorem k_ln12_429 : k_lk 12 (429, 0, 12, 51, 0) := k_l0 k_cc12 rfl (k_in 7 123 rfl rfl)
theorem k_ln12_432 : k_lk 12 (432, 4, 0, 0, 65536) := k_l4 (k_in 9 230 rfl rfl)
theorem k_ln12_433 : k_lk 12 (433, 1, 312, 0, 0) := k_l1 k_M312 rfl (k_in 9 226 rfl rfl) rfl
theorem k_ln12_436 : k_lk 12 (436, 1, 313, 0, 0) := k_l1 k_M313 rfl (k_in 9 222 rfl rfl) rfl
theorem k_ln12_439 : k_lk 12 (439, 1, 357, 1, 0) := k_l1 k_M357 rfl (k_in 10 4 rfl rfl) rfl
theorem k_ln12_442 : k_lk 12 (442, 9, 0, 0, 2) := k_l9 (k_in 9 235 rfl rfl)
theorem k_ln12_444 : k_lk 12 (444, 1, 315, 0, 0) := k_l1 k_M315 rfl (k_in 9 236 rfl rfl) rfl
theorem k_ln12_447 : k_lk 12 (447, 1, 317, 0, 0) := k_l1 k_M317 rfl (k_in 10 0 rfl rfl) rfl
theorem k_ln12_451 : k_lk 12 (451, 1, 316, 0, 0) := k_l1 k_M316 rfl (k_in 10 5 rfl rfl) rfl
theorem k_ln12_454 : k_lk 12 (454, 9, 0, 0, 115) := k_l9 (k_in 10 25 rfl rfl)
theorem k_ln12_456 : k_lk 12 (456, 1, 320, 0, 0) := k_l1 k_M320 rfl (k_in 10 21 rfl rfl) rfl
theorem k_ln12_459 : k_lk 12 (459, 1, 321, 0, 0) := k_l1 k_M321 rfl (k_in 10 30 rfl rfl) rfl
theorem k_ln12_462 : k_lk 12 (462, 0, 12, 52, 0) := k_l0 k_cc12 rfl (k_in 7 124 rfl rfl)
theorem k_ln12_465 : k_lk 12 (465, 1, 322, 0, 0) := k_l1 k_M322 rfl (k_in 10 26 rfl rfl) rfl
theorem k_ln12_469 : k_lk 12 (469, 1, 323, 0, 0) := k_l1 k_M323 rfl (k_in 10 34 rfl rfl) rfl
theorem k_ln12_472 : k_lk 12 (472, 1, 324, 0, 0) := k_l1 k_M324 rfl (k_in 10 17 rfl rfl) rfl
theorem k_ln12_475 : k_lk 12 (475, 0, 12, 46, 0) := k_l0 k_cc12 rfl (k_in 7 118 rfl rfl)
theorem k_ln12_478 : k_lk 12 (478, 0, 12, 43, 0) := k_l0 k_cc12 rfl (k_in 7 115 rfl rfl)
theorem k_ln12_481 : k_lk 12 (481, 0, 12, 48, 0) := k_l0 k_cc12 rfl (k_in 7 120 rfl rfl)
theorem k_ln12_484 : k_lk 12 (484, 0, 12, 47, 0) := k_l0 k_cc12 rfl (k_in 7 119 rfl rfl)
theorem k_ln12_487 : k_lk 12 (487, 0, 12, 44, 0) := k_l0 k_cc12 rfl (k_in 7 116 rfl rfl)
theorem k_ln12_490 : k_lk 12 (490, 0, 12, 45, 0) := k_l0 k_cc12 rfl (k_in 7 117 rfl rfl)
theorem k_ln12_493 : k_lk 12 (493, 1, 330, 0, 0) := k_l1 k_M330 rfl (k_in 10 46 rfl rfl) rfl
theorem k_ln12_496 : k_lk 12 (496, 1, 328, 0, 0) := k_l1 k_M328 rfl (k_in 10 42 rfl rfl) rfl
theorem k_ln12_499 : k_lk 12 (499, 0, 12, 42, 0) := k_l0 k_cc12 rfl (k_in 7 114 rfl rfl)
theorem k_ln12_502 : k_lk 12 (502, 1, 326, 0, 0) := k_l1 k_M326 rfl (k_in 10 50 rfl rfl) rfl
theorem k_ln12_505 : k_lk 12 (505, 1, 329, 0, 0) := k_l1 k_M329 rfl (k_in 10 54 rfl rfl) rfl
theorem k_ln12_508 : k_lk 12 (508, 1, 327, 0, 0) := k_l1 k_M327 rfl (k_in 10 58 rfl rfl) rfl
theorem k_ln12_511 : k_lk 12 (511, 0, 12, 49, 0) := k_l0 k_cc12 rfl (k_in 7 121 rfl rfl)
theorem k_ln12_514 : k_lk 12 (514, 1, 338, 0, 0) := k_l1 k_M338 rfl (k_in 10 86 rfl rfl) rfl
theorem k_ln12_517 : k_lk 12 (517, 1, 333, 0, 0) := k_l1 k_M333 rfl (k_in 10 110 rfl rfl) rfl
theorem k_ln12_520 : k_lk 12 (520, 1, 334, 0, 0) := k_l1 k_M334 rfl (k_in 10 114 rfl rfl) rfl
theorem k_ln12_523 : k_lk 12 (523, 1, 335, 0, 0) := k_l1 k_M335 rfl (k_in 10 82 rfl rfl) rfl
theorem k_ln12_526 : k_lk 12 (526, 1, 336, 0, 0) := k_l1 k_M336 rfl (k_in 10 98 rfl rfl) rfl
theorem k_ln12_528 : k_lk 12 (528, 1, 337, 0, 0) := k_l1 k_M337 rfl (k_in 10 118 rfl rfl) rfl
theorem k_ln12_531 : k_lk 12 (531, 0, 12, 53, 0) := k_l0 k_cc12 rfl (k_in 7 125 rfl rfl)
theorem k_ln12_534 : k_lk 12 (534, 1, 342, 0, 0) := k_l1 k_M342 rfl (k_in 10 102 rfl rfl) rfl
theorem k_ln12_537 : k_lk 12 (537, 1, 340, 0, 0) := k_l1 k_M340 rfl (k_in 10 90 rfl rfl) rfl
theorem k_ln12_540 : k_lk 12 (540, 1, 339, 0, 0) := k_l1 k_M339 rfl (k_in 10 106 rfl rfl) rfl
theorem k_ln12_543 : k_lk 12 (543, 1, 343, 0, 0) := k_l1 k_M343 rfl (k_in 10 78 rfl rfl) rfl
theorem k_ln12_546 : k_lk 12 (546, 1, 345, 0, 0) := k_l1 k_M345 rfl (k_in 10 70 rfl rfl) rfl
theorem k_ln12_549 : k_lk 12 (549, 1, 341, 0, 0) := k_l1 k_M341 rfl (k_in 10 94 rfl rfl) rfl
theorem k_ln12_552 : k_lk 12 (552, 1, 344, 0, 0) := k_l1 k_M344 rfl (k_in 10 74 rfl rfl) rfl
theorem k_ln12_555 : k_lk 12 (555, 1, 347, 0, 0) := k_l1 k_M347 rfl (k_in 10 130 rfl rfl) rfl
theorem k_ln12_558 : k_lk 12 (558, 1, 348, 0, 0) := k_l1 k_M348 rfl (k_in 10 126 rfl rfl) rfl
theorem k_ln12_561 : k_lk 12 (561, 1, 350, 0, 0) := k_l1 k_M350 rfl (k_in 10 138 rfl rfl) rfl
theorem k_ln12_564 : k_lk 12 (564, 1, 351, 0, 0) := k_l1 k_M351 rfl (k_in 10 142 rfl rfl) rfl
theorem k_ln12_567 : k_lk 12 (567, 0, 12, 54, 0) := k_l0 k_cc12 rfl (k_in 7 126 rfl rfl)
theorem k_ln12_570 : k_lk 12 (570, 0, 12, 25, 0) := k_l0 k_cc12 rfl (k_in 7 97 rfl rfl)
theorem k_ln12_573 : k_lk 12 (573, 1, 354, 0, 0) := k_l1 k_M354 rfl (k_in 10 154 rfl rfl) rfl
theorem k_lA12_0 : k_allL 12 k_lI12_0 := ⟨k_ln12_1, k_ln12_7, k_ln12_13, k_ln12_17, k_ln12_20, k_ln12_24, k_ln12_28, k_ln12_32, k_ln12_35, k_ln12_38, k_ln12_41, k_ln12_44, k_ln12_47, k_ln12_50, k_ln12_53, k_ln12_56, k_ln12_59, k_ln12_62, k_ln12_65, k_ln12_68, k_ln12_71, k_ln12_74, k_ln12_77, k_ln12_81, k_ln12_84, k_ln12_87, k_ln12_90, k_ln12_96, k_ln12_100, k_ln12_104, trivial⟩
theorem k_lA12_1 : k_allL 12 k_lI12_1 := ⟨k_ln12_108, k_ln12_112, k_ln12_116, k_ln12_118, k_ln12_120, k_ln12_124, k_ln12_127, k_ln12_130, k_ln12_133, k_ln12_136, k_ln12_139, k_ln12_142, k_ln12_145, k_ln12_147, k_ln12_149, k_ln12_152, k_ln12_155, k_ln12_158, k_ln12_161, k_ln12_165, k_ln12_169, k_ln12_173, k_ln12_176, k_ln12_180, k_ln12_183, k_ln12_186, k_ln12_189, k_ln12_192, k_ln12_196, k_ln12_199, trivial⟩
theorem k_lA12_2 : k_allL 12 k_lI12_2 := ⟨k_ln12_202, k_ln12_205, k_ln12_208, k_ln12_212, k_ln12_215, k_ln12_218, k_ln12_221, k_ln12_224, k_ln12_227, k_ln12_230, k_ln12_233, k_ln12_236, k_ln12_240, k_ln12_243, k_ln12_246, k_ln12_250, k_ln12_254, k_ln12_257, k_ln12_260, k_ln12_263, k_ln12_265, k_ln12_268, k_ln12_271, k_ln12_275, k_ln12_278, k_ln12_280, k_ln12_283, k_ln12_286, k_ln12_289, k_ln12_292, trivial⟩
theorem k_lA12_3 : k_allL 12 k_lI12_3 := ⟨k_ln12_295, k_ln12_297, k_ln12_299, k_ln12_303, k_ln12_306, k_ln12_310, k_ln12_313, k_ln12_316, k_ln12_318, k_ln12_320, k_ln12_322, k_ln12_325, k_ln12_329, k_ln12_332, k_ln12_336, k_ln12_340, k_ln12_343, k_ln12_346, k_ln12_349, k_ln12_352, k_ln12_355, k_ln12_359, k_ln12_362, k_ln12_365, k_ln12_368, k_ln12_371, k_ln12_374, k_ln12_376, k_ln12_379, k_ln12_382, trivial⟩
theorem k_lA12_4 : k_allL 12 k_lI12_4 := ⟨k_ln12_385, k_ln12_388, k_ln12_391, k_ln12_393, k_ln12_396, k_ln12_399, k_ln12_403, k_ln12_405, k_ln12_407, k_ln12_410, k_ln12_414, k_ln12_416, k_ln12_419, k_ln12_422, k_ln12_425, k_ln12_429, k_ln12_432, k_ln12_433, k_ln12_436, k_ln12_439, k_ln12_442, k_ln12_444, k_ln12_447, k_ln12_451, k_ln12_454, k_ln12_456, k_ln12_459, k_ln12_462, k_ln12_465, k_ln12_469, trivial⟩
theorem k_lA12_5 : k_allL 12 k_lI12_5 := ⟨k_ln12_472, k_ln12_475, k_ln12_478, k_ln12_481, k_ln12_484, k_ln12_487, k_ln12_490, k_ln12_493, k_ln12_496, k_ln12_499, k_ln12_502, k_ln12_505, k_ln12_508, k_ln12_511, k_ln12_514, k_ln12_517, k_ln12_520, k_ln12_523, k_ln12_526, k_ln12_528, k_ln12_531, k_ln12_534, k_ln12_537, k_ln12_540, k_ln12_543, k_ln12_546, k_ln12_549, k_ln12_552, k_ln12_555, k_ln12_558, trivial⟩
theorem k_lA12_6 : k_allL 12 k_lI12_6 := ⟨k_ln12_561, k_ln12_564, k_ln12_567, k_ln12_570, k_ln12_573, trivial⟩
theorem k_lA12 : ∀ z ∈ k_lI12, k_lk 12 z := by
  intro z hz
  unfold k_lI12 at hz
  simp only [List.mem_append] at hz
  rcases hz with hz | hz | hz | hz | hz | hz | hz
  · exact k_allL_ok k_lA12_0 z hz
  · exact k_allL_ok k_lA12_1 z hz
  · exact k_allL_ok k_lA12_2 z hz
  · exact k_allL_ok k_lA12_3 z hz
  · exact k_allL_ok k_lA12_4 z hz
  · exact k_allL_ok k_lA12_5 z hz
  · exact k_allL_ok k_lA12_6 z hz
theorem k_lnkOk : c_lnkOk k_P k_cl k_Z := by
  intro own idx k a b v h
  have h : (match k_look own k_lnks with | some l => k_look idx l | none => none) = some (k, a, b, v) := h
  split at h
  · rename_i l hl
    have h1 := k_look_ok hl
    have h2 := k_look_ok h
    unfold k_lnks at h1
    simp only [List.mem_cons, List.not_mem_nil, or_false, Prod.mk.injEq] at h1
    rcases h1 with ⟨rfl, rfl⟩ | ⟨rfl, rfl⟩ | ⟨rfl, rfl⟩ | ⟨rfl, rfl⟩ | ⟨rfl, rfl⟩ | ⟨rfl, rfl⟩ | ⟨rfl, rfl⟩ | ⟨rfl, rfl⟩ | ⟨rfl, rfl⟩ | ⟨rfl, rfl⟩ | ⟨rfl, rfl⟩ | ⟨rfl, rfl⟩ | ⟨rfl, rfl⟩
    · exact k_lA0 _ h2
    · exact k_lA1 _ h2
    · exact k_lA2 _ h2
    · exact k_lA3 _ h2
    · exact k_lA4 _ h2
    · exact k_lA5 _ h2
    · exact k_lA6 _ h2
    · exact k_lA7 _ h2
    · exact k_lA8 _ h2
    · exact k_lA9 _ h2
    · exact k_lA10 _ h2
    · exact k_lA11 _ h2
    · exact k_lA12 _ h2
  · cases h
/-! classes -/
def k_cP (ci : Nat) (q : vw_C) : Prop := ∀ k, k < q.2.2 → u_lay q.1 q.2.1 k ∈ k_ws
def k_cB (ci : Nat) (q : vw_C) : Bool := (List.range q.2.2).all (fun k => (List.range q.2.2).all (fun j => Nat.beq j k || decide ((q.2.1 k).2.1 ≠ (q.2.1 j).2.1)) && decide ((q.2.1 k).1 = q.1) && (match parseFieldDescriptor (q.2.1 k).2.2.1 with
  | some ty => Nat.beq (k_P.2.2.2 ci k) (c_tyC ty + (if (q.2.1 k).2.2.2 = true then 10 else 0))
  | none => false))
def k_allN (P : Nat → Prop) : Nat → Nat → Prop
  | _, 0 => True
  | a, n + 1 => P a ∧ k_allN P (a + 1) n
theorem k_allN_ok {P : Nat → Prop} : ∀ {n a : Nat}, k_allN P a n → ∀ k, a ≤ k → k < a + n → P k
  | 0, _, _, k, h1, h2 => by omega
  | n + 1, a, h, k, h1, h2 => by
    by_cases e : k = a
    · subst e; exact h.1
    · exact k_allN_ok h.2 k (by omega) (by omega)
theorem k_cP0 : k_cP 0 ("MayBoats$Book", k_T0, 6) := fun k hk => k_allN_ok (n := 6) (a := 0) (P := fun k => u_lay "MayBoats$Book" k_T0 k ∈ k_ws) ⟨(k_in 2 126 rfl rfl), (k_in 2 128 rfl rfl), (k_in 2 130 rfl rfl), (k_in 2 132 rfl rfl), (k_in 2 134 rfl rfl), (k_in 2 136 rfl rfl), trivial⟩ k (Nat.zero_le _) (by rw [Nat.zero_add]; exact hk)
theorem k_cB0 : k_cB 0 ("MayBoats$Book", k_T0, 6) = true := by decide +kernel
theorem k_cP1 : k_cP 1 ("MayBoats$Fraction", k_T1, 2) := fun k hk => k_allN_ok (n := 2) (a := 0) (P := fun k => u_lay "MayBoats$Fraction" k_T1 k ∈ k_ws) ⟨(k_in 1 41 rfl rfl), (k_in 1 43 rfl rfl), trivial⟩ k (Nat.zero_le _) (by rw [Nat.zero_add]; exact hk)
theorem k_cB1 : k_cB 1 ("MayBoats$Fraction", k_T1, 2) = true := by decide +kernel
theorem k_cP2 : k_cP 2 ("MayBoats$Land", k_T2, 14) := fun k hk => k_allN_ok (n := 14) (a := 0) (P := fun k => u_lay "MayBoats$Land" k_T2 k ∈ k_ws) ⟨(k_in 1 196 rfl rfl), (k_in 1 198 rfl rfl), (k_in 1 200 rfl rfl), (k_in 1 202 rfl rfl), (k_in 1 204 rfl rfl), (k_in 1 206 rfl rfl), (k_in 1 208 rfl rfl), (k_in 1 210 rfl rfl), (k_in 1 212 rfl rfl), (k_in 1 214 rfl rfl), (k_in 1 216 rfl rfl), (k_in 1 218 rfl rfl), (k_in 1 220 rfl rfl), (k_in 1 222 rfl rfl), trivial⟩ k (Nat.zero_le _) (by rw [Nat.zero_add]; exact hk)
theorem k_cB2 : k_cB 2 ("MayBoats$Land", k_T2, 14) = true := by decide +kernel
theorem k_cP3 : k_cP 3 ("MayBoats$Line", k_T3, 8) := fun k hk => k_allN_ok (n := 8) (a := 0) (P := fun k => u_lay "MayBoats$Line" k_T3 k ∈ k_ws) ⟨(k_in 2 36 rfl rfl), (k_in 2 38 rfl rfl), (k_in 2 40 rfl rfl), (k_in 2 42 rfl rfl), (k_in 2 44 rfl rfl), (k_in 2 46 rfl rfl), (k_in 2 48 rfl rfl), (k_in 2 50 rfl rfl), trivial⟩ k (Nat.zero_le _) (by rw [Nat.zero_add]; exact hk)
theorem k_cB3 : k_cB 3 ("MayBoats$Line", k_T3, 8) = true := by decide +kernel
theorem k_cP4 : k_cP 4 ("MayBoats$Reader", k_T4, 12) := fun k hk => k_allN_ok (n := 12) (a := 0) (P := fun k => u_lay "MayBoats$Reader" k_T4 k ∈ k_ws) ⟨(k_in 1 124 rfl rfl), (k_in 1 126 rfl rfl), (k_in 1 128 rfl rfl), (k_in 1 130 rfl rfl), (k_in 1 132 rfl rfl), (k_in 1 134 rfl rfl), (k_in 1 136 rfl rfl), (k_in 1 138 rfl rfl), (k_in 1 140 rfl rfl), (k_in 1 142 rfl rfl), (k_in 1 144 rfl rfl), (k_in 1 146 rfl rfl), trivial⟩ k (Nat.zero_le _) (by rw [Nat.zero_add]; exact hk)
theorem k_cB4 : k_cB 4 ("MayBoats$Reader", k_T4, 12) = true := by decide +kernel
theorem k_cP5 : k_cP 5 ("MayBoats$Sight", k_T5, 8) := fun k hk => k_allN_ok (n := 8) (a := 0) (P := fun k => u_lay "MayBoats$Sight" k_T5 k ∈ k_ws) ⟨(k_in 2 88 rfl rfl), (k_in 2 90 rfl rfl), (k_in 2 92 rfl rfl), (k_in 2 94 rfl rfl), (k_in 2 96 rfl rfl), (k_in 2 98 rfl rfl), (k_in 2 100 rfl rfl), (k_in 2 102 rfl rfl), trivial⟩ k (Nat.zero_le _) (by rw [Nat.zero_add]; exact hk)
theorem k_cB5 : k_cB 5 ("MayBoats$Sight", k_T5, 8) = true := by decide +kernel
theorem k_cP6 : k_cP 6 ("MayBoats$Tally", k_T6, 5) := fun k hk => k_allN_ok (n := 5) (a := 0) (P := fun k => u_lay "MayBoats$Tally" k_T6 k ∈ k_ws) ⟨(k_in 2 166 rfl rfl), (k_in 2 168 rfl rfl), (k_in 2 170 rfl rfl), (k_in 2 172 rfl rfl), (k_in 2 174 rfl rfl), trivial⟩ k (Nat.zero_le _) (by rw [Nat.zero_add]; exact hk)
theorem k_cB6 : k_cB 6 ("MayBoats$Tally", k_T6, 5) = true := by decide +kernel
theorem k_cP7 : k_cP 7 ("MayBoats$Turning", k_T7, 11) := fun k hk => k_allN_ok (n := 11) (a := 0) (P := fun k => u_lay "MayBoats$Turning" k_T7 k ∈ k_ws) ⟨(k_in 3 69 rfl rfl), (k_in 3 71 rfl rfl), (k_in 3 73 rfl rfl), (k_in 3 75 rfl rfl), (k_in 3 77 rfl rfl), (k_in 3 79 rfl rfl), (k_in 3 81 rfl rfl), (k_in 3 83 rfl rfl), (k_in 3 85 rfl rfl), (k_in 3 87 rfl rfl), (k_in 3 89 rfl rfl), trivial⟩ k (Nat.zero_le _) (by rw [Nat.zero_add]; exact hk)
theorem k_cB7 : k_cB 7 ("MayBoats$Turning", k_T7, 11) = true := by decide +kernel
theorem k_cP8 : k_cP 8 ("MayBoats$Ways", k_T8, 7) := fun k hk => k_allN_ok (n := 7) (a := 0) (P := fun k => u_lay "MayBoats$Ways" k_T8 k ∈ k_ws) ⟨(k_in 2 4 rfl rfl), (k_in 2 6 rfl rfl), (k_in 2 8 rfl rfl), (k_in 2 10 rfl rfl), (k_in 2 12 rfl rfl), (k_in 2 14 rfl rfl), (k_in 2 16 rfl rfl), trivial⟩ k (Nat.zero_le _) (by rw [Nat.zero_add]; exact hk)
theorem k_cB8 : k_cB 8 ("MayBoats$Ways", k_T8, 7) = true := by decide +kernel
theorem k_cP9 : k_cP 9 ("MayBoats$Weave", k_T9, 16) := fun k hk => k_allN_ok (n := 16) (a := 0) (P := fun k => u_lay "MayBoats$Weave" k_T9 k ∈ k_ws) ⟨(k_in 2 207 rfl rfl), (k_in 2 209 rfl rfl), (k_in 2 211 rfl rfl), (k_in 2 213 rfl rfl), (k_in 2 215 rfl rfl), (k_in 2 217 rfl rfl), (k_in 2 219 rfl rfl), (k_in 2 221 rfl rfl), (k_in 2 223 rfl rfl), (k_in 2 225 rfl rfl), (k_in 2 227 rfl rfl), (k_in 2 229 rfl rfl), (k_in 2 231 rfl rfl), (k_in 2 233 rfl rfl), (k_in 2 235 rfl rfl), (k_in 2 237 rfl rfl), trivial⟩ k (Nat.zero_le _) (by rw [Nat.zero_add]; exact hk)
theorem k_cB9 : k_cB 9 ("MayBoats$Weave", k_T9, 16) = true := by decide +kernel
theorem k_cP10 : k_cP 10 ("MayBoats$Writing", k_T10, 10) := fun k hk => k_allN_ok (n := 10) (a := 0) (P := fun k => u_lay "MayBoats$Writing" k_T10 k ∈ k_ws) ⟨(k_in 3 26 rfl rfl), (k_in 3 28 rfl rfl), (k_in 3 30 rfl rfl), (k_in 3 32 rfl rfl), (k_in 3 34 rfl rfl), (k_in 3 36 rfl rfl), (k_in 3 38 rfl rfl), (k_in 3 40 rfl rfl), (k_in 3 42 rfl rfl), (k_in 3 44 rfl rfl), trivial⟩ k (Nat.zero_le _) (by rw [Nat.zero_add]; exact hk)
theorem k_cB10 : k_cB 10 ("MayBoats$Writing", k_T10, 10) = true := by decide +kernel
theorem k_cP11 : k_cP 11 ("MayBoats", k_T11, 20) := fun k hk => k_allN_ok (n := 20) (a := 0) (P := fun k => u_lay "MayBoats" k_T11 k ∈ k_ws) ⟨(k_in 3 116 rfl rfl), (k_in 3 118 rfl rfl), (k_in 3 120 rfl rfl), (k_in 3 122 rfl rfl), (k_in 3 124 rfl rfl), (k_in 3 126 rfl rfl), (k_in 3 128 rfl rfl), (k_in 3 130 rfl rfl), (k_in 3 132 rfl rfl), (k_in 3 134 rfl rfl), (k_in 3 136 rfl rfl), (k_in 3 138 rfl rfl), (k_in 3 140 rfl rfl), (k_in 3 142 rfl rfl), (k_in 3 144 rfl rfl), (k_in 3 146 rfl rfl), (k_in 3 148 rfl rfl), (k_in 3 150 rfl rfl), (k_in 3 152 rfl rfl), (k_in 3 154 rfl rfl), trivial⟩ k (Nat.zero_le _) (by rw [Nat.zero_add]; exact hk)
theorem k_cB11 : k_cB 11 ("MayBoats", k_T11, 20) = true := by decide +kernel
theorem k_cP12_0 : k_allN (fun k => u_lay "MayBoatsModel" k_T12 k ∈ k_ws) 0 20 := ⟨(k_in 7 130 rfl rfl), (k_in 7 132 rfl rfl), (k_in 7 134 rfl rfl), (k_in 7 136 rfl rfl), (k_in 7 138 rfl rfl), (k_in 7 140 rfl rfl), (k_in 7 142 rfl rfl), (k_in 7 144 rfl rfl), (k_in 7 146 rfl rfl), (k_in 7 148 rfl rfl), (k_in 7 150 rfl rfl), (k_in 7 152 rfl rfl), (k_in 7 154 rfl rfl), (k_in 7 156 rfl rfl), (k_in 7 158 rfl rfl), (k_in 7 160 rfl rfl), (k_in 7 162 rfl rfl), (k_in 7 164 rfl rfl), (k_in 7 166 rfl rfl), (k_in 7 168 rfl rfl), trivial⟩
theorem k_cP12_20 : k_allN (fun k => u_lay "MayBoatsModel" k_T12 k ∈ k_ws) 20 20 := ⟨(k_in 7 170 rfl rfl), (k_in 7 172 rfl rfl), (k_in 7 174 rfl rfl), (k_in 7 176 rfl rfl), (k_in 7 178 rfl rfl), (k_in 7 180 rfl rfl), (k_in 7 182 rfl rfl), (k_in 7 184 rfl rfl), (k_in 7 186 rfl rfl), (k_in 7 188 rfl rfl), (k_in 7 190 rfl rfl), (k_in 7 192 rfl rfl), (k_in 7 194 rfl rfl), (k_in 7 196 rfl rfl), (k_in 7 198 rfl rfl), (k_in 7 200 rfl rfl), (k_in 7 202 rfl rfl), (k_in 7 204 rfl rfl), (k_in 7 206 rfl rfl), (k_in 7 208 rfl rfl), trivial⟩
theorem k_cP12_40 : k_allN (fun k => u_lay "MayBoatsModel" k_T12 k ∈ k_ws) 40 18 := ⟨(k_in 7 210 rfl rfl), (k_in 7 212 rfl rfl), (k_in 7 214 rfl rfl), (k_in 7 216 rfl rfl), (k_in 7 218 rfl rfl), (k_in 7 220 rfl rfl), (k_in 7 222 rfl rfl), (k_in 7 224 rfl rfl), (k_in 7 226 rfl rfl), (k_in 7 228 rfl rfl), (k_in 7 230 rfl rfl), (k_in 7 232 rfl rfl), (k_in 7 234 rfl rfl), (k_in 7 236 rfl rfl), (k_in 7 238 rfl rfl), (k_in 8 0 rfl rfl), (k_in 8 2 rfl rfl), (k_in 8 4 rfl rfl), trivial⟩
theorem k_cP12 : k_cP 12 ("MayBoatsModel", k_T12, 58) := fun k hk => by
  have hk : k < 58 := hk
  by_cases h0 : k < 20
  · exact k_allN_ok k_cP12_0 k (by omega) (by omega)
  by_cases h20 : k < 40
  · exact k_allN_ok k_cP12_20 k (by omega) (by omega)
  by_cases h40 : k < 58
  · exact k_allN_ok k_cP12_40 k (by omega) (by omega)
  omega
theorem k_cB12 : k_cB 12 ("MayBoatsModel", k_T12, 58) = true := by decide +kernel
theorem k_cBP {ci : Nat} {q : vw_C} (hc : k_cl[ci]? = some q) : k_cP ci q ∧ k_cB ci q = true := by
  match ci, hc with
  | 0, hc => rw [k_cc0] at hc; cases hc; exact ⟨k_cP0, k_cB0⟩
  | 1, hc => rw [k_cc1] at hc; cases hc; exact ⟨k_cP1, k_cB1⟩
  | 2, hc => rw [k_cc2] at hc; cases hc; exact ⟨k_cP2, k_cB2⟩
  | 3, hc => rw [k_cc3] at hc; cases hc; exact ⟨k_cP3, k_cB3⟩
  | 4, hc => rw [k_cc4] at hc; cases hc; exact ⟨k_cP4, k_cB4⟩
  | 5, hc => rw [k_cc5] at hc; cases hc; exact ⟨k_cP5, k_cB5⟩
  | 6, hc => rw [k_cc6] at hc; cases hc; exact ⟨k_cP6, k_cB6⟩
  | 7, hc => rw [k_cc7] at hc; cases hc; exact ⟨k_cP7, k_cB7⟩
  | 8, hc => rw [k_cc8] at hc; cases hc; exact ⟨k_cP8, k_cB8⟩
  | 9, hc => rw [k_cc9] at hc; cases hc; exact ⟨k_cP9, k_cB9⟩
  | 10, hc => rw [k_cc10] at hc; cases hc; exact ⟨k_cP10, k_cB10⟩
  | 11, hc => rw [k_cc11] at hc; cases hc; exact ⟨k_cP11, k_cB11⟩
  | 12, hc => rw [k_cc12] at hc; cases hc; exact ⟨k_cP12, k_cB12⟩
  | n + 13, hc => exact absurd hc (by unfold k_cl; simp)
theorem k_clsOk : c_clsOk k_P k_cl k_Z.2.2.1 := by
  intro ci C T N hc
  obtain ⟨hp, h⟩ := k_cBP hc
  unfold k_cB at h
  have key : ∀ k, k < N → _ := fun k hk => List.all_eq_true.mp h k (List.mem_range.mpr hk)
  refine ⟨fun w hw => ?_, fun a ha b hb hab => ?_, fun k => (parseFieldDescriptor (T k).2.2.1).getD .int, fun k hk => ?_, fun k hk => ?_⟩
  · obtain ⟨k, hk, rfl⟩ := List.mem_map.mp hw
    exact hp k (List.mem_range.mp hk)
  · have g := key a ha
    rw [Bool.and_eq_true, Bool.and_eq_true] at g
    have g2 := List.all_eq_true.mp g.1.1 b (List.mem_range.mpr hb)
    rw [Bool.or_eq_true] at g2
    rcases g2 with g2 | g2
    · exact absurd (Nat.eq_of_beq_eq_true g2).symm hab
    · exact of_decide_eq_true g2
  · have g := key k hk
    rw [Bool.and_eq_true] at g
    have g2 := g.2
    dsimp only
    split at g2
    · rename_i ty ht
      have ht : parseFieldDescriptor (T k).2.2.1 = some ty := ht
      rw [ht]; rfl
    · cases g2
  · have g := key k hk
    rw [Bool.and_eq_true, Bool.and_eq_true] at g
    have g2 := g.2
    split at g2
    · rename_i ty ht
      have ht : parseFieldDescriptor (T k).2.2.1 = some ty := ht
      dsimp only
      rw [ht]
      exact ⟨Nat.eq_of_beq_eq_true g2, of_decide_eq_true g.1.2⟩
    · cases g2
theorem k_good : GoodIn k_ws k_ws := fun w hw => ⟨hw, good_of_word (List.mem_filter.mp hw).2⟩
theorem k_nest : ∀ x ∈ k_Z.2.2.2.1, ∃ (a : String) (i : Nat) (y : MethodName) (h : String), x = .methodLinkNest a i y h := by
  intro x hx
  rw [k_Zn] at hx
  have h := (List.mem_filter.mp hx).2
  unfold k_isN at h
  split at h
  · exact ⟨_, _, _, _, rfl⟩
  · cases h
theorem k_acOk : c_acOk k_cl k_Z "MayBoats$Book" := by
  refine ⟨fun ty h => ?_, rfl, _, _, rfl⟩
  rcases h with rfl | rfl | rfl | rfl | rfl
  · exact (k_in 1 150 rfl rfl)
  · exact (k_in 1 149 rfl rfl)
  · exact (k_in 1 151 rfl rfl)
  · exact (k_in 1 152 rfl rfl)
  · exact (k_in 3 92 rfl rfl)
theorem k_libOk : c_libOk k_Z := ⟨(k_in 1 27 rfl rfl), (k_in 1 28 rfl rfl), (k_in 3 210 rfl rfl), (k_in 3 209 rfl rfl), (k_in 1 19 rfl rfl)⟩
