/-! Object's own constructor; arraycopy -/
def c_libOk (Z : cStat) : Prop := Jvm.Cond.instanceMethod Lib.objectInit ∈ Z.2.2.1 ∧ Jvm.Cond.code Lib.objectInit ⟨#[0xb1]⟩ 1 none ∈ Z.2.2.1 ∧ Jvm.Cond.native arraycopyName ∈ Z.2.2.1 ∧ Jvm.Cond.static arraycopyName ∈ Z.2.2.1 ∧ Jvm.Cond.initialized "java/lang/System" ∈ Z.2.2.1
theorem c_cpy_TW {K : cTab} {dA : Nat → ClassId} {AA : Nat → Prop} {w : cWld} (hJ : c_Jfr K) (hT : c_TW K dA w) (hD : va_D AA w.2.1) {q1 x0 x1 t : Nat} {e0 e1 e2 : va_E} {vt : cVT} (h0 : (x0, e0) ∈ w.2.1) (h1 : w.2.1[q1]? = some (x1, e1)) (t0 : w.1 x0 = t) (t1 : w.1 x1 = t) (hu : K.2.2.2.1 t = some vt) (hi : ∀ i ∈ K.2.2.1, i.1 ≠ t) (hp : ∀ i ∈ K.2.2.2.2.1, i.1 ≠ t) (hf : ∀ h, c_form dA h e1 → c_form dA h e2) (hr : ∀ (j : Nat) (v : Value), c_rd e2 j = some v → (∃ i, c_rd e0 i = some v) ∨ c_rd e1 j = some v) : c_TW K dA (w.1, w.2.1.set q1 (x1, e2), w.2.2) := by
  have hin : ∀ a u, c_in w a u → c_in (w.1, w.2.1.set q1 (x1, e2), w.2.2) a u := by
    rintro b u ⟨e, g1, g2⟩
    by_cases hb : b = x1
    · subst hb; exact ⟨e2, c_set_new h1, g2⟩
    · exact ⟨e, c_set_old h1 g1 hb, g2⟩
  have hty : ∀ j, c_ty K t j = vt := fun j => by unfold c_ty; rw [hu]
  intro q hq
  rcases c_set_in hD h1 hq with rfl | ⟨g1, g2⟩
  · obtain ⟨a1, a2, a3, a4⟩ := hT _ (c_mem_of_at h1)
    obtain ⟨b1, b2, b3, b4⟩ := hT _ h0
    dsimp only at a1 a2 a3 a4 b2 ⊢
    rw [t1] at a1 a2 a3 a4 ⊢
    rw [t0] at b2
    refine ⟨hf _ a1, fun j v hv => c_in_mono_okV hin ?_, fun i hi1 hi2 => absurd hi2 (hi i hi1), hJ t _ _ _ _ (fun i hh => ?_) a4⟩
    · rw [hty]
      rcases hr j v hv with ⟨i, h5⟩ | h5
      · have := b2 i v h5; rw [hty] at this; exact this
      · have := a2 j v h5; rw [hty] at this; exact this
    · obtain ⟨y, y1, y2, -⟩ := hh
      exact absurd y2 (hp y y1)
  · obtain ⟨a1, a2, a3, a4⟩ := hT q g1
    exact ⟨a1, fun j v hv => c_in_mono_okV hin (a2 j v hv), fun i hi1 hi2 y hy hy0 v hv => c_in_mono_okV hin (a3 i hi1 hi2 y hy hy0 v hv), a4⟩
theorem c_cpy_ext {AA : Nat → Prop} {w : cWld} (hD : va_D AA w.2.1) {q1 x1 t n : Nat} {e1 e2 : va_E} (h1 : w.2.1[q1]? = some (x1, e1)) (t1 : w.1 x1 = t) (hr : ∀ j, n < j → c_rd e2 j = c_rd e1 j) : c_ext [(t, 0, n)] [] w (w.1, w.2.1.set q1 (x1, e2), w.2.2) := by
  refine ⟨fun q hq => ?_, fun _ _ => rfl⟩
  by_cases hb : q.1 = x1
  · have hq2 : (x1, q.2) ∈ w.2.1 := by rw [← hb]; exact hq
    have := c_uniq hD hq2 (c_mem_of_at h1)
    refine ⟨e2, by rw [hb]; exact c_set_new h1, Or.inl ⟨rfl, fun j hj => ?_⟩⟩
    rw [this]
    refine hr j (Nat.lt_of_not_le fun hle => hj ⟨(t, 0, n), List.mem_singleton.mpr rfl, by rw [hb]; exact t1.symm, Nat.zero_le _, hle⟩)
  · exact ⟨q.2, c_set_old h1 hq hb, Or.inl ⟨rfl, fun _ _ => rfl⟩⟩
section ML
variable {p : Program} {l : Launch} {e : Env} {R : Room} {s : State} {m : MethodId} {args : Array Value} {below : List Frame} {meth : Method} {c : Code} {D : va_G} {cl : List vw_C} {dA : Nat → ClassId} {AA : Nat → Prop} {K : cTab} {O : cCtr} {w0 : cWld} {cc : ByteArray} {nL : Nat} {Q : State → Prop} {n0 : Nat} {r0 : Nat → Int}
  {P : cPrg} {own : Nat} {an : cAnn} {A : cSt} {pc len : Nat} {L : List (Nat × cSt)} {Z : cStat} {bk : String}
theorem c_mc_objInit {i : Nat} {o : cAV} {S : List cAV} {x : Nat} (hx : p.tables.exec = Jvm.exec) (hb : c.code = cc) (hml : c.maxLocals = nL) (hown : s.vm.findClass (Z.1 own) = some m.cls) (hts : ∀ w ∈ Z.2.2.1, w.before args s = true) (hlib : c_libOk Z) (hlink : Jvm.Cond.methodLink (Z.1 own) i Lib.objectInit ∈ Z.2.2.1) (hdep : ∀ r, c_agr n0 r0 r → c_ev r (ct_dep O) ≤ (R.frames : Int)) (hR : 64 * R.frames ≤ R.locals)
    (hst : c_stk A = o :: S) (ho : c_refS A o = some x) (he : c_ent A.2.1 A.2.2.2.2.1 3 (c_addc (ct_dep O) (-1)) = true) (hcat : c_catS S ≤ 8) (hd : decode cc pc = .ok (.invokespecial i, 3)) (hL : c_OK ((p, l, e, R, s, m, args, below, meth, c), (D, cl, dA, AA), (K, O, w0), (cc, nL, Q)) n0 r0 (pc + 3) (c_setS A S)) : c_OK ((p, l, e, R, s, m, args, below, meth, c), (D, cl, dA, AA), (K, O, w0), (cc, nL, Q)) n0 r0 pc A := by
  intro lv st w cu su hcu hsu hT hE hs H locs ls hP hD hS hl
  obtain ⟨v, ss, rfl, kk⟩ := c_top1 hs hst
  obtain ⟨r, hag, hr⟩ := hs.at
  obtain ⟨h1, h2⟩ := c_refS_ok ho
  have h3 := (kk r hr).1
  rw [h1] at h3
  have h4 : (0 : Int) ≤ r x := hr.2.1 _ h2
  have h5 := c_ent_ok hr.1 hr.2.2.2.1 _ _ he
  rw [c_ev_addc] at h5
  have h6 := hdep r hag
  have hss := c_catS_ok (kk r hr).2
  rcases c_DVr h3 rfl with ⟨-, h7⟩ | ⟨y, rfl, -⟩
  · have h7 : c_ev r (c_sym x) = -1 := h7
    rw [c_ev_sym] at h7
    omega
  · exact W.objInit hx hb hown (hts _ hlink) (hts _ hlib.1) (hts _ hlib.2.1) rfl (hl.1.trans hml.symm) rfl hd (by omega) (by show 2 * 0 + _ + 12 ≤ _; rw [hss]; omega) (hL lv ss w cu su hcu hsu hT hE (hs.setS fun r hr => (kk r hr).2) H locs ls hP hD hS hl)

theorem c_cpy_int (hJ : c_Jfr K) (hx : p.tables.exec = Jvm.exec) (hb : c.code = cc) (hml : c.maxLocals = nL) (hown : s.vm.findClass (Z.1 own) = some m.cls) (hts : ∀ w ∈ Z.2.2.1, w.before args s = true) (hK : va_K D cl (c_tys dA bk) s) (hlib : c_libOk Z) {i : Nat} (hlink : Jvm.Cond.methodLink (Z.1 own) i arraycopyName ∈ Z.2.2.1) (hf1 : 1 ≤ R.frames) (hR : 64 * R.frames ≤ R.locals)
    {H : Heap} {locs : List Loc} {cu su : Nat} {ls : Array Slot} {w : cWld} {lv : List (Nat × Value)} {ss : List Value} {x0 x1 q0 q1 t : Nat} {e0 e1 : va_E} {sp dp n : Int32} (hT : c_TW K dA w) (hP : va_P D cl w.2.1 H) (hD : va_D AA w.2.1) (hS : va_S AA s.heap H locs) (hl : lv_has ls nL lv) (h0 : w.2.1[q0]? = some (x0, e0)) (h1 : w.2.1[q1]? = some (x1, e1)) (t0 : w.1 x0 = t) (t1 : w.1 x1 = t) (hk : (K.2.1 t).1 = 1) (hu : c_cpyT (K.2.1 t).1 (K.2.2.2.1 t) = true) (hi : ∀ i ∈ K.2.2.1, i.1 ≠ t) (hp : ∀ i ∈ K.2.2.2.2.1, i.1 ≠ t)
    (hsp : ¬ sp < 0) (hdp : ¬ dp < 0) (hn : ¬ n < 0) (hs1 : sp.toNatClampNeg + n.toNatClampNeg ≤ (K.2.1 t).2.1) (hd1 : dp.toNatClampNeg + n.toNatClampNeg ≤ (K.2.1 t).2.1) (hcat : (ss.map fun v => v.category).sum ≤ 8) (hd : decode cc pc = .ok (.invokestatic i, 3))
    (kk : ∀ (w' : cWld) (H1 : Heap) (locs1 : List Loc), c_TW K dA w' → c_ext [(t, 0, (K.2.1 t).2.1 - 1)] [] w w' → va_P D cl w'.2.1 H1 → va_D AA w'.2.1 → va_S AA s.heap H1 locs1 → W p l e R s m args below meth c H1 locs1 cu su Q (F0 m (pc + 3) ls ss)) : W p l e R s m args below meth c H locs cu su Q (F0 m pc ls (.int n :: .int dp :: .ref x1 :: .int sp :: .ref x0 :: ss)) := by
  have f0 := (hT _ (c_mem_of_at h0)).1
  have f1 := (hT _ (c_mem_of_at h1)).1
  have v0 := (hT _ (c_mem_of_at h0)).2.1
  dsimp only at f0 f1 v0
  rw [t0] at f0 v0
  rw [t1] at f1
  unfold c_form at f0 f1
  rw [hk] at f0 f1
  obtain ⟨f, rfl⟩ := f0
  obtain ⟨g, rfl⟩ := f1
  obtain ⟨vt, hvt, hvk⟩ : ∃ vt, K.2.2.2.1 t = some vt ∧ (Nat.ble (K.2.1 t).1 2 || (Nat.beq vt.1 0 && (if Nat.beq (K.2.1 t).1 3 then decide (-128 ≤ vt.2.1) && decide (vt.2.2 ≤ 127) else decide (-32768 ≤ vt.2.1) && decide (vt.2.2 ≤ 32767)))) = true := by
    unfold c_cpyT at hu
    split at hu
    · cases hu
    · rename_i vt h5
      exact ⟨vt, h5, hu⟩
  rw [hk] at hvk
  have hnf : nativeFrameWords "java/lang/System" "arraycopy" 5 = 7 := by decide
  have hroom : (ss.map fun v => v.category).sum + (nativeFrameWords "java/lang/System" "arraycopy" 5 + 11) ≤ R.locals := by rw [hnf]; omega
  refine va_copyi hx hb (hml.trans hl.1.symm) hown (hts _ hlink) (hts _ hlib.2.2.1) (hts _ hlib.2.2.2.1) (hts _ hlib.2.2.2.2) hK hP hD hS q0 q1 0 0 (ty := .int) h0 h1 rfl rfl rfl hsp hdp hn hs1 hd1 (fun i hi => ?_) hf1 hroom hd (fun H1 locs1 hP1 hD1 hS1 => kk (w.1, w.2.1.set q1 (x1, .inl (dA 1, (K.2.1 t).2.1, .inl (va_cpy f g sp.toNatClampNeg dp.toNatClampNeg n.toNatClampNeg))), w.2.2) H1 locs1 ?_ ?_ hP1 hD1 hS1)
  · rfl
  · refine c_cpy_TW hJ hT hD (c_mem_of_at h0) h1 t0 t1 hvt hi hp (fun h hh => c_form_inl (q := (dA 1, (K.2.1 t).2.1, .inl g)) rfl rfl (Or.inl ⟨_, _, rfl, rfl⟩) hh) (fun j v hv => ?_)
    by_cases hj : j < (K.2.1 t).2.1
    · have hv : (if j < (K.2.1 t).2.1 then some _ else none) = some v := hv
      rw [if_pos hj] at hv
      by_cases hc : dp.toNatClampNeg ≤ j ∧ j < dp.toNatClampNeg + n.toNatClampNeg
      · left
        refine ⟨sp.toNatClampNeg + (j - dp.toNatClampNeg), ?_⟩
        show (if _ < (K.2.1 t).2.1 then some _ else none) = some v
        rw [if_pos (by omega), ← hv]
        simp [c_rdA, va_cpy, hc]
      · right
        show (if j < (K.2.1 t).2.1 then some _ else none) = some v
        rw [if_pos hj, ← hv]
        simp [c_rdA, va_cpy, hc]
    · have hv : (if j < (K.2.1 t).2.1 then some _ else none) = some v := hv
      rw [if_neg hj] at hv
      cases hv
  · refine c_cpy_ext hD h1 t1 (fun j hj => ?_)
    show (if j < (K.2.1 t).2.1 then some _ else none) = if j < (K.2.1 t).2.1 then some _ else none
    rw [if_neg (by omega), if_neg (by omega)]

theorem c_cpy_long (hJ : c_Jfr K) (hx : p.tables.exec = Jvm.exec) (hb : c.code = cc) (hml : c.maxLocals = nL) (hown : s.vm.findClass (Z.1 own) = some m.cls) (hts : ∀ w ∈ Z.2.2.1, w.before args s = true) (hK : va_K D cl (c_tys dA bk) s) (hlib : c_libOk Z) {i : Nat} (hlink : Jvm.Cond.methodLink (Z.1 own) i arraycopyName ∈ Z.2.2.1) (hf1 : 1 ≤ R.frames) (hR : 64 * R.frames ≤ R.locals)
    {H : Heap} {locs : List Loc} {cu su : Nat} {ls : Array Slot} {w : cWld} {lv : List (Nat × Value)} {ss : List Value} {x0 x1 q0 q1 t : Nat} {e0 e1 : va_E} {sp dp n : Int32} (hT : c_TW K dA w) (hP : va_P D cl w.2.1 H) (hD : va_D AA w.2.1) (hS : va_S AA s.heap H locs) (hl : lv_has ls nL lv) (h0 : w.2.1[q0]? = some (x0, e0)) (h1 : w.2.1[q1]? = some (x1, e1)) (t0 : w.1 x0 = t) (t1 : w.1 x1 = t) (hk : (K.2.1 t).1 = 2) (hu : c_cpyT (K.2.1 t).1 (K.2.2.2.1 t) = true) (hi : ∀ i ∈ K.2.2.1, i.1 ≠ t) (hp : ∀ i ∈ K.2.2.2.2.1, i.1 ≠ t)
    (hsp : ¬ sp < 0) (hdp : ¬ dp < 0) (hn : ¬ n < 0) (hs1 : sp.toNatClampNeg + n.toNatClampNeg ≤ (K.2.1 t).2.1) (hd1 : dp.toNatClampNeg + n.toNatClampNeg ≤ (K.2.1 t).2.1) (hcat : (ss.map fun v => v.category).sum ≤ 8) (hd : decode cc pc = .ok (.invokestatic i, 3))
    (kk : ∀ (w' : cWld) (H1 : Heap) (locs1 : List Loc), c_TW K dA w' → c_ext [(t, 0, (K.2.1 t).2.1 - 1)] [] w w' → va_P D cl w'.2.1 H1 → va_D AA w'.2.1 → va_S AA s.heap H1 locs1 → W p l e R s m args below meth c H1 locs1 cu su Q (F0 m (pc + 3) ls ss)) : W p l e R s m args below meth c H locs cu su Q (F0 m pc ls (.int n :: .int dp :: .ref x1 :: .int sp :: .ref x0 :: ss)) := by
  have f0 := (hT _ (c_mem_of_at h0)).1
  have f1 := (hT _ (c_mem_of_at h1)).1
  have v0 := (hT _ (c_mem_of_at h0)).2.1
  dsimp only at f0 f1 v0
  rw [t0] at f0 v0
  rw [t1] at f1
  unfold c_form at f0 f1
  rw [hk] at f0 f1
  obtain ⟨f, rfl⟩ := f0
  obtain ⟨g, rfl⟩ := f1
  obtain ⟨vt, hvt, hvk⟩ : ∃ vt, K.2.2.2.1 t = some vt ∧ (Nat.ble (K.2.1 t).1 2 || (Nat.beq vt.1 0 && (if Nat.beq (K.2.1 t).1 3 then decide (-128 ≤ vt.2.1) && decide (vt.2.2 ≤ 127) else decide (-32768 ≤ vt.2.1) && decide (vt.2.2 ≤ 32767)))) = true := by
    unfold c_cpyT at hu
    split at hu
    · cases hu
    · rename_i vt h5
      exact ⟨vt, h5, hu⟩
  rw [hk] at hvk
  have hnf : nativeFrameWords "java/lang/System" "arraycopy" 5 = 7 := by decide
  have hroom : (ss.map fun v => v.category).sum + (nativeFrameWords "java/lang/System" "arraycopy" 5 + 11) ≤ R.locals := by rw [hnf]; omega
  refine va_copyl hx hb (hml.trans hl.1.symm) hown (hts _ hlink) (hts _ hlib.2.2.1) (hts _ hlib.2.2.2.1) (hts _ hlib.2.2.2.2) hK hP hD hS q0 q1 1 1 (ty := .long) h0 h1 rfl rfl rfl hsp hdp hn hs1 hd1 (fun i hi => ?_) hf1 hroom hd (fun H1 locs1 hP1 hD1 hS1 => kk (w.1, w.2.1.set q1 (x1, .inl (dA 2, (K.2.1 t).2.1, .inr (.inl (va_cpy f g sp.toNatClampNeg dp.toNatClampNeg n.toNatClampNeg)))), w.2.2) H1 locs1 ?_ ?_ hP1 hD1 hS1)
  · rfl
  · refine c_cpy_TW hJ hT hD (c_mem_of_at h0) h1 t0 t1 hvt hi hp (fun h hh => c_form_inl (q := (dA 2, (K.2.1 t).2.1, .inr (.inl g))) rfl rfl (Or.inr (Or.inl ⟨_, _, rfl, rfl⟩)) hh) (fun j v hv => ?_)
    by_cases hj : j < (K.2.1 t).2.1
    · have hv : (if j < (K.2.1 t).2.1 then some _ else none) = some v := hv
      rw [if_pos hj] at hv
      by_cases hc : dp.toNatClampNeg ≤ j ∧ j < dp.toNatClampNeg + n.toNatClampNeg
      · left
        refine ⟨sp.toNatClampNeg + (j - dp.toNatClampNeg), ?_⟩
        show (if _ < (K.2.1 t).2.1 then some _ else none) = some v
        rw [if_pos (by omega), ← hv]
        simp [c_rdA, va_cpy, hc]
      · right
        show (if j < (K.2.1 t).2.1 then some _ else none) = some v
        rw [if_pos hj, ← hv]
        simp [c_rdA, va_cpy, hc]
    · have hv : (if j < (K.2.1 t).2.1 then some _ else none) = some v := hv
      rw [if_neg hj] at hv
      cases hv
  · refine c_cpy_ext hD h1 t1 (fun j hj => ?_)
    show (if j < (K.2.1 t).2.1 then some _ else none) = if j < (K.2.1 t).2.1 then some _ else none
    rw [if_neg (by omega), if_neg (by omega)]

theorem c_cpy_byte (hJ : c_Jfr K) (hx : p.tables.exec = Jvm.exec) (hb : c.code = cc) (hml : c.maxLocals = nL) (hown : s.vm.findClass (Z.1 own) = some m.cls) (hts : ∀ w ∈ Z.2.2.1, w.before args s = true) (hK : va_K D cl (c_tys dA bk) s) (hlib : c_libOk Z) {i : Nat} (hlink : Jvm.Cond.methodLink (Z.1 own) i arraycopyName ∈ Z.2.2.1) (hf1 : 1 ≤ R.frames) (hR : 64 * R.frames ≤ R.locals)
    {H : Heap} {locs : List Loc} {cu su : Nat} {ls : Array Slot} {w : cWld} {lv : List (Nat × Value)} {ss : List Value} {x0 x1 q0 q1 t : Nat} {e0 e1 : va_E} {sp dp n : Int32} (hT : c_TW K dA w) (hP : va_P D cl w.2.1 H) (hD : va_D AA w.2.1) (hS : va_S AA s.heap H locs) (hl : lv_has ls nL lv) (h0 : w.2.1[q0]? = some (x0, e0)) (h1 : w.2.1[q1]? = some (x1, e1)) (t0 : w.1 x0 = t) (t1 : w.1 x1 = t) (hk : (K.2.1 t).1 = 3) (hu : c_cpyT (K.2.1 t).1 (K.2.2.2.1 t) = true) (hi : ∀ i ∈ K.2.2.1, i.1 ≠ t) (hp : ∀ i ∈ K.2.2.2.2.1, i.1 ≠ t)
    (hsp : ¬ sp < 0) (hdp : ¬ dp < 0) (hn : ¬ n < 0) (hs1 : sp.toNatClampNeg + n.toNatClampNeg ≤ (K.2.1 t).2.1) (hd1 : dp.toNatClampNeg + n.toNatClampNeg ≤ (K.2.1 t).2.1) (hcat : (ss.map fun v => v.category).sum ≤ 8) (hd : decode cc pc = .ok (.invokestatic i, 3))
    (kk : ∀ (w' : cWld) (H1 : Heap) (locs1 : List Loc), c_TW K dA w' → c_ext [(t, 0, (K.2.1 t).2.1 - 1)] [] w w' → va_P D cl w'.2.1 H1 → va_D AA w'.2.1 → va_S AA s.heap H1 locs1 → W p l e R s m args below meth c H1 locs1 cu su Q (F0 m (pc + 3) ls ss)) : W p l e R s m args below meth c H locs cu su Q (F0 m pc ls (.int n :: .int dp :: .ref x1 :: .int sp :: .ref x0 :: ss)) := by
  have f0 := (hT _ (c_mem_of_at h0)).1
  have f1 := (hT _ (c_mem_of_at h1)).1
  have v0 := (hT _ (c_mem_of_at h0)).2.1
  dsimp only at f0 f1 v0
  rw [t0] at f0 v0
  rw [t1] at f1
  unfold c_form at f0 f1
  rw [hk] at f0 f1
  obtain ⟨f, rfl⟩ := f0
  obtain ⟨g, rfl⟩ := f1
  obtain ⟨vt, hvt, hvk⟩ : ∃ vt, K.2.2.2.1 t = some vt ∧ (Nat.ble (K.2.1 t).1 2 || (Nat.beq vt.1 0 && (if Nat.beq (K.2.1 t).1 3 then decide (-128 ≤ vt.2.1) && decide (vt.2.2 ≤ 127) else decide (-32768 ≤ vt.2.1) && decide (vt.2.2 ≤ 32767)))) = true := by
    unfold c_cpyT at hu
    split at hu
    · cases hu
    · rename_i vt h5
      exact ⟨vt, h5, hu⟩
  rw [hk] at hvk
  have hnf : nativeFrameWords "java/lang/System" "arraycopy" 5 = 7 := by decide
  have hroom : (ss.map fun v => v.category).sum + (nativeFrameWords "java/lang/System" "arraycopy" 5 + 11) ≤ R.locals := by rw [hnf]; omega
  refine va_copyi hx hb (hml.trans hl.1.symm) hown (hts _ hlink) (hts _ hlib.2.2.1) (hts _ hlib.2.2.2.1) (hts _ hlib.2.2.2.2) hK hP hD hS q0 q1 2 2 (ty := .byte) h0 h1 rfl rfl rfl hsp hdp hn hs1 hd1 (fun i hi => ?_) hf1 hroom hd (fun H1 locs1 hP1 hD1 hS1 => kk (w.1, w.2.1.set q1 (x1, .inl (dA 3, (K.2.1 t).2.1, .inl (va_cpy f g sp.toNatClampNeg dp.toNatClampNeg n.toNatClampNeg))), w.2.2) H1 locs1 ?_ ?_ hP1 hD1 hS1)
  · have hv := v0 (sp.toNatClampNeg + i) _ (if_pos (by show _ < (K.2.1 t).2.1; omega))
    rw [show c_ty K t (sp.toNatClampNeg + i) = vt by unfold c_ty; rw [hvt]] at hv
    have hvk : (Nat.beq vt.1 0 && (decide (-128 ≤ vt.2.1) && decide (vt.2.2 ≤ 127))) = true := hvk
    rw [Bool.and_eq_true, Bool.and_eq_true] at hvk
    have k0 := Nat.eq_of_beq_eq_true hvk.1
    have k1 := of_decide_eq_true hvk.2.1
    have k2 := of_decide_eq_true hvk.2.2
    unfold c_okV at hv
    rw [k0] at hv
    obtain ⟨z, hz1, hz2, hz3⟩ := hv
    have hz1 : Value.int (f (sp.toNatClampNeg + i)) = .int z := hz1
    cases hz1
    show (decide (-128 ≤ f _) && decide (f _ ≤ 127)) = true
    rw [Bool.and_eq_true]
    have l1 : (-128 : Int32).toInt = -128 := by decide
    have l2 : (127 : Int32).toInt = 127 := by decide
    exact ⟨decide_eq_true (Int32.le_iff_toInt_le.mpr (by omega)), decide_eq_true (Int32.le_iff_toInt_le.mpr (by omega))⟩
  · refine c_cpy_TW hJ hT hD (c_mem_of_at h0) h1 t0 t1 hvt hi hp (fun h hh => c_form_inl (q := (dA 3, (K.2.1 t).2.1, .inl g)) rfl rfl (Or.inl ⟨_, _, rfl, rfl⟩) hh) (fun j v hv => ?_)
    by_cases hj : j < (K.2.1 t).2.1
    · have hv : (if j < (K.2.1 t).2.1 then some _ else none) = some v := hv
      rw [if_pos hj] at hv
      by_cases hc : dp.toNatClampNeg ≤ j ∧ j < dp.toNatClampNeg + n.toNatClampNeg
      · left
        refine ⟨sp.toNatClampNeg + (j - dp.toNatClampNeg), ?_⟩
        show (if _ < (K.2.1 t).2.1 then some _ else none) = some v
        rw [if_pos (by omega), ← hv]
        simp [c_rdA, va_cpy, hc]
      · right
        show (if j < (K.2.1 t).2.1 then some _ else none) = some v
        rw [if_pos hj, ← hv]
        simp [c_rdA, va_cpy, hc]
    · have hv : (if j < (K.2.1 t).2.1 then some _ else none) = some v := hv
      rw [if_neg hj] at hv
      cases hv
  · refine c_cpy_ext hD h1 t1 (fun j hj => ?_)
    show (if j < (K.2.1 t).2.1 then some _ else none) = if j < (K.2.1 t).2.1 then some _ else none
    rw [if_neg (by omega), if_neg (by omega)]

theorem c_cpy_short (hJ : c_Jfr K) (hx : p.tables.exec = Jvm.exec) (hb : c.code = cc) (hml : c.maxLocals = nL) (hown : s.vm.findClass (Z.1 own) = some m.cls) (hts : ∀ w ∈ Z.2.2.1, w.before args s = true) (hK : va_K D cl (c_tys dA bk) s) (hlib : c_libOk Z) {i : Nat} (hlink : Jvm.Cond.methodLink (Z.1 own) i arraycopyName ∈ Z.2.2.1) (hf1 : 1 ≤ R.frames) (hR : 64 * R.frames ≤ R.locals)
    {H : Heap} {locs : List Loc} {cu su : Nat} {ls : Array Slot} {w : cWld} {lv : List (Nat × Value)} {ss : List Value} {x0 x1 q0 q1 t : Nat} {e0 e1 : va_E} {sp dp n : Int32} (hT : c_TW K dA w) (hP : va_P D cl w.2.1 H) (hD : va_D AA w.2.1) (hS : va_S AA s.heap H locs) (hl : lv_has ls nL lv) (h0 : w.2.1[q0]? = some (x0, e0)) (h1 : w.2.1[q1]? = some (x1, e1)) (t0 : w.1 x0 = t) (t1 : w.1 x1 = t) (hk : (K.2.1 t).1 = 4) (hu : c_cpyT (K.2.1 t).1 (K.2.2.2.1 t) = true) (hi : ∀ i ∈ K.2.2.1, i.1 ≠ t) (hp : ∀ i ∈ K.2.2.2.2.1, i.1 ≠ t)
    (hsp : ¬ sp < 0) (hdp : ¬ dp < 0) (hn : ¬ n < 0) (hs1 : sp.toNatClampNeg + n.toNatClampNeg ≤ (K.2.1 t).2.1) (hd1 : dp.toNatClampNeg + n.toNatClampNeg ≤ (K.2.1 t).2.1) (hcat : (ss.map fun v => v.category).sum ≤ 8) (hd : decode cc pc = .ok (.invokestatic i, 3))
    (kk : ∀ (w' : cWld) (H1 : Heap) (locs1 : List Loc), c_TW K dA w' → c_ext [(t, 0, (K.2.1 t).2.1 - 1)] [] w w' → va_P D cl w'.2.1 H1 → va_D AA w'.2.1 → va_S AA s.heap H1 locs1 → W p l e R s m args below meth c H1 locs1 cu su Q (F0 m (pc + 3) ls ss)) : W p l e R s m args below meth c H locs cu su Q (F0 m pc ls (.int n :: .int dp :: .ref x1 :: .int sp :: .ref x0 :: ss)) := by
  have f0 := (hT _ (c_mem_of_at h0)).1
  have f1 := (hT _ (c_mem_of_at h1)).1
  have v0 := (hT _ (c_mem_of_at h0)).2.1
  dsimp only at f0 f1 v0
  rw [t0] at f0 v0
  rw [t1] at f1
  unfold c_form at f0 f1
  rw [hk] at f0 f1
  obtain ⟨f, rfl⟩ := f0
  obtain ⟨g, rfl⟩ := f1
  obtain ⟨vt, hvt, hvk⟩ : ∃ vt, K.2.2.2.1 t = some vt ∧ (Nat.ble (K.2.1 t).1 2 || (Nat.beq vt.1 0 && (if Nat.beq (K.2.1 t).1 3 then decide (-128 ≤ vt.2.1) && decide (vt.2.2 ≤ 127) else decide (-32768 ≤ vt.2.1) && decide (vt.2.2 ≤ 32767)))) = true := by
    unfold c_cpyT at hu
    split at hu
    · cases hu
    · rename_i vt h5
      exact ⟨vt, h5, hu⟩
  rw [hk] at hvk
  have hnf : nativeFrameWords "java/lang/System" "arraycopy" 5 = 7 := by decide
  have hroom : (ss.map fun v => v.category).sum + (nativeFrameWords "java/lang/System" "arraycopy" 5 + 11) ≤ R.locals := by rw [hnf]; omega
  refine va_copyi hx hb (hml.trans hl.1.symm) hown (hts _ hlink) (hts _ hlib.2.2.1) (hts _ hlib.2.2.2.1) (hts _ hlib.2.2.2.2) hK hP hD hS q0 q1 3 3 (ty := .short) h0 h1 rfl rfl rfl hsp hdp hn hs1 hd1 (fun i hi => ?_) hf1 hroom hd (fun H1 locs1 hP1 hD1 hS1 => kk (w.1, w.2.1.set q1 (x1, .inl (dA 4, (K.2.1 t).2.1, .inl (va_cpy f g sp.toNatClampNeg dp.toNatClampNeg n.toNatClampNeg))), w.2.2) H1 locs1 ?_ ?_ hP1 hD1 hS1)
  · have hv := v0 (sp.toNatClampNeg + i) _ (if_pos (by show _ < (K.2.1 t).2.1; omega))
    rw [show c_ty K t (sp.toNatClampNeg + i) = vt by unfold c_ty; rw [hvt]] at hv
    have hvk : (Nat.beq vt.1 0 && (decide (-32768 ≤ vt.2.1) && decide (vt.2.2 ≤ 32767))) = true := hvk
    rw [Bool.and_eq_true, Bool.and_eq_true] at hvk
    have k0 := Nat.eq_of_beq_eq_true hvk.1
    have k1 := of_decide_eq_true hvk.2.1
    have k2 := of_decide_eq_true hvk.2.2
    unfold c_okV at hv
    rw [k0] at hv
    obtain ⟨z, hz1, hz2, hz3⟩ := hv
    have hz1 : Value.int (f (sp.toNatClampNeg + i)) = .int z := hz1
    cases hz1
    show (decide (-32768 ≤ f _) && decide (f _ ≤ 32767)) = true
    rw [Bool.and_eq_true]
    have l1 : (-32768 : Int32).toInt = -32768 := by decide
    have l2 : (32767 : Int32).toInt = 32767 := by decide
    exact ⟨decide_eq_true (Int32.le_iff_toInt_le.mpr (by omega)), decide_eq_true (Int32.le_iff_toInt_le.mpr (by omega))⟩
  · refine c_cpy_TW hJ hT hD (c_mem_of_at h0) h1 t0 t1 hvt hi hp (fun h hh => c_form_inl (q := (dA 4, (K.2.1 t).2.1, .inl g)) rfl rfl (Or.inl ⟨_, _, rfl, rfl⟩) hh) (fun j v hv => ?_)
    by_cases hj : j < (K.2.1 t).2.1
    · have hv : (if j < (K.2.1 t).2.1 then some _ else none) = some v := hv
      rw [if_pos hj] at hv
      by_cases hc : dp.toNatClampNeg ≤ j ∧ j < dp.toNatClampNeg + n.toNatClampNeg
      · left
        refine ⟨sp.toNatClampNeg + (j - dp.toNatClampNeg), ?_⟩
        show (if _ < (K.2.1 t).2.1 then some _ else none) = some v
        rw [if_pos (by omega), ← hv]
        simp [c_rdA, va_cpy, hc]
      · right
        show (if j < (K.2.1 t).2.1 then some _ else none) = some v
        rw [if_pos hj, ← hv]
        simp [c_rdA, va_cpy, hc]
    · have hv : (if j < (K.2.1 t).2.1 then some _ else none) = some v := hv
      rw [if_neg hj] at hv
      cases hv
  · refine c_cpy_ext hD h1 t1 (fun j hj => ?_)
    show (if j < (K.2.1 t).2.1 then some _ else none) = if j < (K.2.1 t).2.1 then some _ else none
    rw [if_neg (by omega), if_neg (by omega)]

end ML
