/-! cells: fields and arrays -/
def c_tys (dA : Nat → ClassId) (bk : String) : List (ClassId × FieldType) := [(dA 1, .int), (dA 2, .long), (dA 3, .byte), (dA 4, .short), (dA 5, .boolean), (dA 6, .object bk), (dA 7, .array .long)]
def c_tyC : FieldType → Nat
  | .int => 0
  | .long => 1
  | .object _ => 2
  | .array _ => 2
  | .boolean => 3
  | _ => 9
/-- what the tables say of the classes: fields (10 and more: final) -/
def c_clsOk (P : cPrg) (cl : List vw_C) (Ts : List Jvm.Cond) : Prop := ∀ (ci : Nat) (C : String) (T : u_T) (N : Nat), cl[ci]? = some (C, T, N) → (∀ w ∈ u_ws C T N, w ∈ Ts) ∧ (∀ a, a < N → ∀ b, b < N → a ≠ b → (T a).2.1 ≠ (T b).2.1) ∧
  ∃ ty : Nat → FieldType, (∀ k, k < N → parseFieldDescriptor (T k).2.2.1 = some (ty k)) ∧ ∀ k, k < N → P.2.2.2 ci k = c_tyC (ty k) + (if (T k).2.2.2 = true then 10 else 0) ∧ (T k).1 = C
theorem c_seq_inv {o : Option cSt} {nx : Nat} {L : List (Nat × cSt)} (h : c_seq o nx = some L) : ∃ B, o = some B ∧ L = [(nx, B)] := by
  unfold c_seq at h
  split at h
  · cases h
  · cases h; exact ⟨_, rfl, rfl⟩
theorem c_ref_ok {A : cSt} {a : cAV} {x : Nat × Nat} (h : c_ref A a = some x) : x.1 ≠ 0 ∧ a = (2, c_sym x.1) ∧ (x.1, 3) ∈ A.2.2.1 ∧ (x.1, x.2) ∈ A.2.2.2.1 := by
  unfold c_ref at h
  split at h
  · cases h
  · rename_i s hs
    split at h
    · cases h
    · rename_i t ht
      split at h
      · cases h
      · rename_i h0
        cases h
        obtain ⟨h1, h2⟩ := c_refS_ok hs
        exact ⟨fun q => h0 (by have q : s = 0 := q; rw [q]; rfl), h1, h2, c_tagOf_ok ht⟩
/-- the cell of a reference whose value is known -/
theorem c_obj {n0 : Nat} {r0 : Nat → Int} {A : cSt} {lv : List (Nat × Value)} {st : List Value} {w : cWld} {K : cTab} {dA : Nat → ClassId} (hs : c_sat n0 r0 A lv st w) (hT : c_TW K dA w) {a : cAV} {x : Nat × Nat} {v : Value} (h : c_ref A a = some x) (hv : ∀ r, c_satR A r lv st w → c_DV r a v) : ∃ (y : Nat) (e : va_E) (q0 : Nat), v = .ref y ∧ w.2.1[q0]? = some (y, e) ∧ w.1 y = x.2 ∧ c_form dA (K.2.1 x.2) e ∧ ∀ r, c_satR A r lv st w → r x.1 = (y : Int) := by
  obtain ⟨h0, h1, h2, h3⟩ := c_ref_ok h
  obtain ⟨r, -, hr⟩ := hs.at
  have ev : ∀ r, c_ev r a.2 = r x.1 := fun r => by rw [h1]; exact c_ev_sym r _
  have hp : (0 : Int) ≤ r x.1 := hr.2.1 _ h2
  obtain ⟨y, g1, e, g2, g3⟩ := hr.2.2.1 _ h3 hp
  have g1 : r x.1 = (y : Int) := g1
  have ha : a.1 = 2 := by rw [h1]
  rcases c_DVr (hv r hr) ha with ⟨-, h5⟩ | ⟨z, rfl, h5⟩
  · rw [ev] at h5; omega
  · rw [ev] at h5
    have : z = y := by omega
    subst this
    obtain ⟨q0, hq⟩ := List.getElem?_of_mem g2
    obtain ⟨tf, -⟩ := hT _ g2
    have g3 : w.1 z = x.2 := g3
    dsimp only at tf
    rw [g3] at tf
    refine ⟨z, e, q0, rfl, hq, g3, tf, fun r' hr' => ?_⟩
    rcases c_DVr (hv r' hr') ha with ⟨h6, -⟩ | ⟨u, h6, h7⟩
    · cases h6
    · cases h6
      rw [ev] at h7
      exact h7
theorem c_top2 {n0 : Nat} {r0 : Nat → Int} {A : cSt} {lv : List (Nat × Value)} {st : List Value} {w : cWld} (hs : c_sat n0 r0 A lv st w) {a b : cAV} {S : List cAV} (h : c_stk A = a :: b :: S) : ∃ u v ss, st = u :: v :: ss ∧ ∀ r, c_satR A r lv st w → c_DV r a u ∧ c_DV r b v ∧ c_F2 (c_DV r) S ss := by
  obtain ⟨u, ss, rfl, k⟩ := c_top1 hs h
  obtain ⟨r, -, hr⟩ := hs.at
  obtain ⟨v, ss, rfl, -, -⟩ := c_F2_cons (k r hr).2
  exact ⟨u, v, ss, rfl, fun r hr => ⟨(k r hr).1, (k r hr).2.1, (k r hr).2.2⟩⟩
theorem c_top3 {n0 : Nat} {r0 : Nat → Int} {A : cSt} {lv : List (Nat × Value)} {st : List Value} {w : cWld} (hs : c_sat n0 r0 A lv st w) {a b d : cAV} {S : List cAV} (h : c_stk A = a :: b :: d :: S) : ∃ u v z ss, st = u :: v :: z :: ss ∧ ∀ r, c_satR A r lv st w → c_DV r a u ∧ c_DV r b v ∧ c_DV r d z ∧ c_F2 (c_DV r) S ss := by
  obtain ⟨u, v, ss, rfl, k⟩ := c_top2 hs h
  obtain ⟨r, -, hr⟩ := hs.at
  obtain ⟨z, ss, rfl, -, -⟩ := c_F2_cons (k r hr).2.2
  exact ⟨u, v, z, ss, rfl, fun r hr => ⟨(k r hr).1, (k r hr).2.1, (k r hr).2.2.1, (k r hr).2.2.2⟩⟩
theorem c_pop_inv {S : List cAV} {o : Option cSt} {B : cSt} (h : c_pop S o = some B) : ∃ C, o = some C ∧ B = c_setS C S := by
  unfold c_pop at h
  split at h
  · cases h
  · cases h; exact ⟨_, rfl, rfl⟩
theorem c_store_stk {K : cTab} {E : cEff} {A B : cSt} {rs : Nat} {idx : cLin} {a : cAV} (h : c_store K E A rs idx a = some B) : c_stk B = c_stk A := by
  unfold c_store at h
  split at h
  · split at h
    · cases h; rfl
    · cases h
  · cases h
section MH
variable {p : Program} {l : Launch} {e : Env} {R : Room} {s : State} {m : MethodId} {args : Array Value} {below : List Frame} {meth : Method} {c : Code} {D : va_G} {cl : List vw_C} {dA : Nat → ClassId} {AA : Nat → Prop} {K : cTab} {O : cCtr} {w0 : cWld} {cc : ByteArray} {nL : Nat} {Q : State → Prop} {n0 : Nat} {r0 : Nat → Int}
  {P : cPrg} {own : Nat} {an : cAnn} {A : cSt} {pc len : Nat} {L : List (Nat × cSt)} {Z : cStat} {bk : String}

theorem c_m_getfield {i : Nat} (hx : p.tables.exec = Jvm.exec) (hb : c.code = cc) (hlk : c_lnkOk P cl Z) (hcl : c_clsOk P cl Z.2.2.1) (hown : s.vm.findClass (Z.1 own) = some m.cls) (hts : ∀ w ∈ Z.2.2.1, w.before args s = true) (hK : va_K D cl (c_tys dA bk) s) (h : c_step K P O nL own an A pc len (.getfield i) = some L) (hd : decode cc pc = .ok (.getfield i, len)) (hL : ∀ q ∈ L, c_OK ((p, l, e, R, s, m, args, below, meth, c), (D, cl, dA, AA), (K, O, w0), (cc, nL, Q)) n0 r0 q.1 q.2) : c_OK ((p, l, e, R, s, m, args, below, meth, c), (D, cl, dA, AA), (K, O, w0), (cc, nL, Q)) n0 r0 pc A := by
  unfold c_step at h
  dsimp only at h
  obtain ⟨hn, g⟩ := c_len_inv h
  clear h
  subst hn
  split at g
  · rename_i ci k _ o S hlnk hst
    split at g
    · rename_i x hx1
      split at g
      · rename_i hc
        rw [Bool.and_eq_true, Bool.and_eq_true] at hc
        obtain ⟨⟨c1, c2⟩, c3⟩ := hc
        obtain ⟨B, hB, rfl⟩ := c_seq_inv g
        intro lv st w cu su hcu hsu hT hE hs H locs ls hP hD hS hl
        obtain ⟨v, ss, rfl, kk⟩ := c_top1 hs hst
        obtain ⟨y, ce, q0, rfl, hq0, hy1, hy2, hy3⟩ := c_obj hs hT hx1 (fun r hr => (kk r hr).1)
        obtain ⟨C, T, N, l1, l2, l3⟩ := hlk _ _ _ _ _ _ hlnk
        obtain ⟨k1, k2, ty, k3, k4⟩ := hcl _ _ _ _ l1
        unfold c_form at hy2
        rw [Nat.eq_of_beq_eq_true c1] at hy2
        obtain ⟨fs, rfl, hfs⟩ := hy2
        rw [Nat.eq_of_beq_eq_true c2] at hq0
        have hk : k < fs.length := by rw [hfs]; exact Nat.le_of_ble_eq_true c3
        have hv : fs[k]? = some fs[k] := List.getElem?_eq_getElem hk
        have hrd : c_rd (.inr (ci, fs)) k = some fs[k] := hv
        obtain ⟨s1, s2, s3⟩ := c_load_ok (ss := ss) hs hT hD (c_ref_ok hx1).1 (x := y) (j := k) (fun r _ hr => ⟨hy3 r hr, c_ev_con r _⟩) (c_mem_of_at hq0) hrd (fun r hr => (kk r hr).2) hB
        exact va_get hx hb hts k1 hown hK hP q0 hq0 l1 k l2 (hts _ l3) (fun _ h => h) hv hd (hL _ List.mem_cons_self lv _ w cu su (s2.trans hcu) (s3.trans hsu) hT hE s1 H locs ls hP hD hS hl)
      · cases g
    · cases g
  · cases g
theorem c_nf {r : Nat → Int} {a : cAV} {v : Value} {t : FieldType} (hd : c_DV r a v) (h : (c_tyC t = 0 ∧ a.1 = 0) ∨ (c_tyC t = 1 ∧ a.1 = 1) ∨ (c_tyC t = 2 ∧ a.1 = 2) ∨ (c_tyC t = 3 ∧ a.1 = 0 ∧ 0 ≤ c_ev r a.2 ∧ c_ev r a.2 ≤ 1)) : narrow t v = v ∧ fits t v = true := by
  rcases h with ⟨h1, h2⟩ | ⟨h1, h2⟩ | ⟨h1, h2⟩ | ⟨h1, h2, h3, h4⟩
  · obtain ⟨x, rfl, -⟩ := c_DVi hd h2
    cases t <;> first | exact ⟨rfl, rfl⟩ | (exact absurd h1 (by intro q; cases q))
  · obtain ⟨x, rfl, -⟩ := c_DVl hd h2
    cases t <;> first | exact ⟨rfl, rfl⟩ | (exact absurd h1 (by intro q; cases q))
  · rcases c_DVr hd h2 with ⟨rfl, -⟩ | ⟨x, rfl, -⟩
    · cases t <;> first | exact ⟨rfl, rfl⟩ | (exact absurd h1 (by intro q; cases q))
    · cases t <;> first | exact ⟨rfl, rfl⟩ | (exact absurd h1 (by intro q; cases q))
  · obtain ⟨x, rfl, h5⟩ := c_DVi hd h2
    have h6 : x = 0 ∨ x = 1 := by
      rcases (show x.toInt = 0 ∨ x.toInt = 1 by omega) with q | q
      · left; exact (c_eq0 x).mpr q
      · right; exact Int32.toInt_inj.mp q
    cases t
    case boolean =>
      rcases h6 with rfl | rfl
      · exact ⟨by decide, by decide⟩
      · exact ⟨by decide, by decide⟩
    all_goals exact absurd h1 (by intro q; cases q)
theorem c_m_putfield {i : Nat} (hJ : c_Jfr K) (hini : (∃ ci, c_annOf 0 3 an = some ci) → meth.name = "<init>") (hx : p.tables.exec = Jvm.exec) (hb : c.code = cc) (hlk : c_lnkOk P cl Z) (hcl : c_clsOk P cl Z.2.2.1) (hcn : ∀ (ci : Nat) (C : String) (T : u_T) (N : Nat), c_annOf 0 3 an = some ci → cl[ci]? = some (C, T, N) → C = Z.1 own) (hown : s.vm.findClass (Z.1 own) = some m.cls) (hts : ∀ w ∈ Z.2.2.1, w.before args s = true) (hK : va_K D cl (c_tys dA bk) s) (h : c_step K P O nL own an A pc len (.putfield i) = some L) (hd : decode cc pc = .ok (.putfield i, len)) (hL : ∀ q ∈ L, c_OK ((p, l, e, R, s, m, args, below, meth, c), (D, cl, dA, AA), (K, O, w0), (cc, nL, Q)) n0 r0 q.1 q.2) : c_OK ((p, l, e, R, s, m, args, below, meth, c), (D, cl, dA, AA), (K, O, w0), (cc, nL, Q)) n0 r0 pc A := by
  unfold c_step at h
  dsimp only at h
  obtain ⟨hn, g⟩ := c_len_inv h
  clear h
  subst hn
  split at g
  · rename_i ci k _ a o S hlnk hst
    split at g
    · rename_i x hx1
      split at g
      · rename_i hc
        rw [Bool.and_eq_true, Bool.and_eq_true, Bool.and_eq_true] at hc
        obtain ⟨⟨⟨c1, c2⟩, c3⟩, c4⟩ := hc
        obtain ⟨B, hB, rfl⟩ := c_seq_inv g
        intro lv st w cu su hcu hsu hT hE hs H locs ls hP hD hS hl
        obtain ⟨v, ov, ss, rfl, kk⟩ := c_top2 hs hst
        obtain ⟨y, ce, q0, rfl, hq0, hy1, hy2, hy3⟩ := c_obj hs hT hx1 (fun r hr => (kk r hr).2.1)
        obtain ⟨C, T, N, l1, l2, l3⟩ := hlk _ _ _ _ _ _ hlnk
        obtain ⟨k1, k2, ty, k3, k4⟩ := hcl _ _ _ _ l1
        obtain ⟨k5, k6⟩ := k4 k l2
        unfold c_form at hy2
        rw [Nat.eq_of_beq_eq_true c1] at hy2
        obtain ⟨fs, rfl, hfs⟩ := hy2
        rw [Nat.eq_of_beq_eq_true c2] at hq0
        have hk : k < fs.length := by rw [hfs]; exact Nat.le_of_ble_eq_true c3
        obtain ⟨r, -, hr⟩ := hs.at
        have hwr : c_wr (.inr (ci, fs)) (.inr (ci, fs.set k v)) k v := by
          intro j
          show (fs.set k v)[j]? = if j = k then some v else fs[j]?
          rw [List.getElem?_set]
          by_cases hj : k = j
          · subst hj
            rw [if_pos rfl, if_pos rfl, if_pos hk]
          · rw [if_neg hj, if_neg (fun q => hj q.symm)]
        have hform : ∀ h, c_form dA h (.inr (ci, fs)) → c_form dA h (.inr (ci, fs.set k v)) := by
          intro h hh
          unfold c_form at hh ⊢
          split at hh
          · obtain ⟨fs', e1, e2⟩ := hh
            cases e1
            exact ⟨_, rfl, by rw [List.length_set]; exact e2⟩
          all_goals
            obtain ⟨f, e1⟩ := hh
            cases e1
        obtain ⟨B', hB', rfl⟩ := c_pop_inv hB
        obtain ⟨s1, s2, s3, s4, s5⟩ := c_store_ok hJ hs hT hD hE (c_ref_ok hx1).1 (x := y) (j := k) (v := v) (fun r _ hr => ⟨hy3 r hr, c_ev_con r _, (kk r hr).1⟩) hq0 hwr hform hB'
        have s6 : c_sat n0 r0 (c_setS B' S) lv ss (w.1, w.2.1.set q0 (y, .inr (ci, fs.set k v)), w.2.2) := s1.setS fun r hr => by
          have hF : c_F2 (c_DV r) (c_stk B') _ := hr.2.2.2.2.2.1
          rw [c_store_stk hB', hst] at hF
          exact hF.2.2
        -- the field's type
        unfold c_fieldK at c4
        rw [Bool.and_eq_true, Bool.or_eq_true] at c4
        obtain ⟨c4, c5⟩ := c4
        have hnf : narrow (ty k) v = v ∧ fits (ty k) v = true := by
          refine c_nf (kk r hr).1 ?_
          have hm : P.2.2.2 ci k % 10 = c_tyC (ty k) % 10 := by
            rw [k5]
            split
            · omega
            · omega
          have hlt : c_tyC (ty k) < 10 := by
            cases ty k <;> first | decide | (show (2 : Nat) < 10; decide)
          split at c5
          · rename_i hz; exact Or.inl ⟨by omega, Nat.eq_of_beq_eq_true c5⟩
          · rename_i hz; exact Or.inr (Or.inl ⟨by omega, Nat.eq_of_beq_eq_true c5⟩)
          · rename_i hz; exact Or.inr (Or.inr (Or.inl ⟨by omega, Nat.eq_of_beq_eq_true c5⟩))
          · rename_i hz
            rw [Bool.and_eq_true] at c5
            have := c_in2_ok hr c5.2
            exact Or.inr (Or.inr (Or.inr ⟨by omega, Nat.eq_of_beq_eq_true c5.1, this.1, this.2⟩))
          · cases c5
        have fin : ∀ (H1 : Heap) (locs1 : List Loc), va_P D cl (w.2.1.set q0 (y, .inr (ci, fs.set k v))) H1 → va_D AA (w.2.1.set q0 (y, .inr (ci, fs.set k v))) → va_S AA s.heap H1 locs1 → W p l e R s m args below meth c H1 locs1 cu su Q (F0 m (pc + 3) ls ss) := fun H1 locs1 hP1 hD1 hS1 =>
          hL _ List.mem_cons_self lv ss (w.1, w.2.1.set q0 (y, .inr (ci, fs.set k v)), w.2.2) cu su (s4.trans hcu) (s5.trans hsu) s2 s3 s6 H1 locs1 ls hP1 hD1 hS1 hl
        by_cases hfin : (T k).2.2.2 = true
        · have h10 : ¬ Nat.blt (P.2.2.2 ci k) 10 = true := by
            rw [k5, if_pos hfin]
            intro q
            have := Nat.le_of_ble_eq_true q
            omega
          rcases c4 with c4 | c4
          · exact absurd c4 h10
          · unfold c_isIni at c4
            split at c4
            · rename_i x' hx'
              have e := Nat.eq_of_beq_eq_true c4
              subst e
              refine va_putF hx hb hts k1 ty k3 k2 hown hK hP hD hS q0 hq0 l1 k l2 (hts _ l3) (fun _ h => h) hfin (hini ⟨_, hx'⟩) ?_ (k3 k l2) hnf.1 hnf.2 hk hd fin
              rw [k6]
              exact hcn _ _ _ _ hx' l1
            · cases c4
        · have hfin : (T k).2.2.2 = false := by
            cases hq : (T k).2.2.2 with
            | false => rfl
            | true => exact absurd hq hfin
          exact va_put hx hb hts k1 ty k3 k2 hown hK hP hD hS q0 hq0 l1 k l2 (hts _ l3) (fun _ h => h) hfin (k3 k l2) hnf.1 hnf.2 hk hd fin
      · cases g
    · cases g
  · cases g
end MH
