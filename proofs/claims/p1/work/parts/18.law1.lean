/-! THE LAW'S OWN CODE: the class and the reference in two worlds -/
def zL_A (s : State) : Nat → Prop := fun q => s.heap.size ≤ q
/-- where an argument is pushed -/
abbrev zL_decP (pc j : Nat) : Prop := decode code pc = .ok (.aload_n 0, 1) ∧ decode code (pc + 1) = .ok (.iload_n 3, 1) ∧ decode code (pc + 2) = .ok (.iconst (j : Int), 1) ∧ decode code (pc + 3) = .ok (.iadd, 1) ∧ decode code (pc + 4) = .ok (.iaload, 1)
theorem zL_j : ∀ j : Nat, j < 6 → (0 : Int32) + Int32.ofInt (j : Int) = nI j := by decide +kernel
def zL_vs (xs : Nat → Int32) (n : Nat) : List Value := (List.range n).map (fun j => Value.int (xs (j + 1)))
def zL_nu (xs : Nat → Int32) (n : Nat) : List Int32 := (List.range n).map (fun j => xs (j + 1))
def zL_as (n : Nat) : List zz_V := (List.range n).map (fun j => .inr (.inr (.inr j)))
theorem zL_Vs {ρ : List Nat} {xs : Nat → Int32} {n : Nat} (hn : n ≤ 5) : zr_Vs ρ (zL_nu xs n) (zL_as n) (zL_vs xs n) := by
  match n, hn with
  | 0, _ => exact trivial
  | 1, _ => exact ⟨⟨_, rfl, rfl⟩, trivial⟩
  | 2, _ => exact ⟨⟨_, rfl, rfl⟩, ⟨_, rfl, rfl⟩, trivial⟩
  | 3, _ => exact ⟨⟨_, rfl, rfl⟩, ⟨_, rfl, rfl⟩, ⟨_, rfl, rfl⟩, trivial⟩
  | 4, _ => exact ⟨⟨_, rfl, rfl⟩, ⟨_, rfl, rfl⟩, ⟨_, rfl, rfl⟩, ⟨_, rfl, rfl⟩, trivial⟩
  | 5, _ => exact ⟨⟨_, rfl, rfl⟩, ⟨_, rfl, rfl⟩, ⟨_, rfl, rfl⟩, ⟨_, rfl, rfl⟩, ⟨_, rfl, rfl⟩, trivial⟩
theorem zL_len {xs : Nat → Int32} {n : Nat} : (zL_vs xs n).length = n := by
  unfold zL_vs
  rw [List.length_map, List.length_range]
/-- the other world stays -/
theorem zL_keep {D : va_G} {cl : List vw_C} {wx wm : va_W} {H H1 : Heap} (hPm : va_P D cl wm H) (hap : ∀ (i j : Nat) (x y : Nat × va_E), wx[i]? = some x → wm[j]? = some y → x.1 ≠ y.1) (hk : ∀ q : Nat, q < H.size → ¬ va_A wx H.size q → H1[q]? = H[q]?) : va_P D cl wm H1 := by
  intro k q hq
  have hl := (hPm k q hq).lt
  refine (hPm k q hq).kept (hk q.1 hl ?_)
  rintro (⟨i, e, h⟩ | h)
  · exact hap i k _ q h hq rfl
  · omega
section ZLW
variable {p : Program} {l : Launch} {e : Env} {s : State} {m : MethodId} {below : List Frame} {meth : Method} {c : Code} {b : Nat} {xs : Nat → Int32} {H : Heap} {locs : List Loc} {nc ns : Nat} {Q : State → Prop} {A : Nat → Prop}
theorem zL_push (hx : p.tables.exec = Jvm.exec) (hb : c.code = code) (hX : va_X b 6 xs s s.heap) (hbl : b < s.heap.size) (hbA : ¬ A b) (hS : va_S A s.heap H locs) {ls : Array Slot} (h0 : ls[0]? = some (.val (.ref b))) (h3 : ls[3]? = some (.val (.int 0))) {pc j : Nat} (hj : j < 6) (hd : zL_decP pc j) {st : List Value} (k : W p l e room_1 s m #[Value.ref b] below meth c H locs nc ns Q (F0 m (pc + 5) ls (.int (xs j) :: st))) : W p l e room_1 s m #[Value.ref b] below meth c H locs nc ns Q (F0 m pc ls st) := by
  obtain ⟨d0, d1, d2, d3, d4⟩ := hd
  refine lv_aload_n hx hb d0 rfl h0 ?_
  refine lv_iload_n hx hb d1 rfl h3 ?_
  refine lv_iconst hx hb d2 rfl ?_
  refine lv_iadd hx hb d3 ?_
  rw [zL_j j hj]
  refine va_sld hx hb hX hbl hbA hS (vp_in_nI hj (by decide)) d4 ?_
  rw [nI_clamp (by omega)]
  exact k
theorem zL_pushN (hx : p.tables.exec = Jvm.exec) (hb : c.code = code) (hX : va_X b 6 xs s s.heap) (hbl : b < s.heap.size) (hbA : ¬ A b) (hS : va_S A s.heap H locs) {ls : Array Slot} (h0 : ls[0]? = some (.val (.ref b))) (h3 : ls[3]? = some (.val (.int 0))) {pc : Nat} : ∀ (n : Nat), n ≤ 5 → (∀ j, j < n → zL_decP (pc + 5 * j) (j + 1)) → ∀ {st : List Value}, W p l e room_1 s m #[Value.ref b] below meth c H locs nc ns Q (F0 m (pc + 5 * n) ls ((zL_vs xs n).reverse ++ st)) → W p l e room_1 s m #[Value.ref b] below meth c H locs nc ns Q (F0 m pc ls st)
  | 0, _, _, _, k => k
  | n + 1, hn, hd, st, k => by
    refine zL_pushN hx hb hX hbl hbA hS h0 h3 n (by omega) (fun j hj => hd j (by omega)) ?_
    refine zL_push hx hb hX hbl hbA hS h0 h3 (j := n + 1) (by omega) (hd n (by omega)) ?_
    have e : (zL_vs xs (n + 1)).reverse ++ st = .int (xs (n + 1)) :: ((zL_vs xs n).reverse ++ st) := by
      unfold zL_vs
      rw [List.range_succ, List.map_append, List.reverse_append]
      rfl
    rw [e] at k
    exact k
/-- behind a call -/
theorem zL_called {D : va_G} {outs : List zz_O} {ρ : List Nat} {ν : List Int32} {ws : va_W} {ls : Array Slot} {kk kk2 : List Value} {va : Array Value} {pc : Nat} (hS : va_S A s.heap H locs) (hF : ∀ q, va_A ws H.size q → A q)
    (hn : ∀ o ∈ outs, ∀ (ρ2 : List Nat) (ν2 : List Int32) (w2 : va_W) (rv : Option Value) (H2 : Heap) (locs2 : List Loc), ρ <+: ρ2 → ν <+: ν2 → zr_G o.2.2.1 ν2 → zr_H s ρ2 ν2 o.2.1 w2 → zr_Vo ρ2 ν2 o.1 rv → va_P D zz_cl w2 H2 → va_D (va_A ws H.size) w2 → H.size ≤ H2.size → (∀ q : Nat, q < H.size → ¬ va_A ws H.size q → H2[q]? = H[q]?) → va_S A s.heap H2 locs2 → W p l e room_1 s m #[Value.ref b] below meth c H2 locs2 (nc + zz_mc outs) (ns + zz_ms outs) Q (F0 m (pc + 3) ls (rv.toList ++ kk2)))
    (hrun : va_Run p l e room_1 s m #[Value.ref b] below meth c H locs nc ns (zz_mc outs) (zz_ms outs) (F0 m pc ls kk) kk2 (zr_Q D ρ ν ws H.size outs va) (va_A ws H.size)) : W p l e room_1 s m #[Value.ref b] below meth c H locs nc ns Q (F0 m pc ls kk) := by
  intro T hT X
  obtain ⟨v, st0, t, T2, L, h0, X2, hLq, e1, e2, ⟨⟨o, ho, ρ2, ν2, ws2, rv, hrv, hρ, hν, hG2, hH2, hVo, hP2, hD2⟩, hz, hk⟩, st⟩ := hrun T hT X
  cases hrv
  rw [h0] at hz hk
  have hal : s.vm.Alike t.vm := by rw [← e2]; exact X2.warmed.alike
  obtain ⟨t2, a1, b1⟩ := hn o ho ρ2 ν2 ws2 v T2.heap (locs ++ L) hρ hν hG2 (hH2.moved hal.symm) hVo (by rw [e1]; exact hP2) hD2 (by rw [e1]; exact hz) (fun q h1 h2 => by rw [e1]; exact hk q h1 h2) ⟨Nat.le_trans hS.1 (by rw [e1]; exact hz), fun q h1 h2 => by rw [e1, hk q (Nat.lt_of_lt_of_le h1 hS.1) (fun z => h2 (hF q z))]; exact hS.2.1 q h1 h2, fun q hq => by
      rcases List.mem_append.mp hq with h | h
      · exact hS.2.2 q h
      · exact hF _ (hLq q h)⟩ T2 rfl X2
  exact ⟨t2, st t2 a1, b1⟩
/-- a method that the law calls: its number, its arguments, its class's place, the pool's place -/
def zL_meth (mi n ci idx : Nat) : Prop := ∃ (C : String) (T : u_T) (N nC : Nat) (y : MethodName) (cc2 : ByteArray) (ret2 : Option FieldType) (code2 : List zz_Op) (pcs2 : List Nat), zm_all mi = (code2, nC, y, cc2, ret2, pcs2) ∧ Cond.code y cc2 nC ret2 ∈ zg_tbl ∧ nC ≤ 20 ∧ zz_cl[ci]? = some (C, T, N) ∧ Cond.methodLink "EvenBodiesLaw" idx y ∈ zg_tbl ∧ Cond.instanceMethod y ∈ zg_tbl ∧ Cond.selects C y y ∈ zg_tbl ∧ Cond.initialized C ∈ zg_tbl ∧ (y.cls = C ∧ y.cls ≠ "java/lang/invoke/MethodHandle" ∧ y.cls ≠ "java/lang/invoke/VarHandle" ∧ (parseMethodDescriptor y.desc).map (fun d => d.parameters.length) = some n)
theorem zL_callV (hx : p.tables.exec = Jvm.exec) (hb : c.code = code) (hml : c.maxLocals = 4) (hown : s.vm.findClass "EvenBodiesLaw" = some m.cls) (hts : ∀ w ∈ zg_tbl, w.before #[Value.ref b] s = true) {D : va_G} (hK : va_K D zz_cl [] s) (hEx : zr_Ex s) {mi n ci idx : Nat} (hm : zL_meth mi n ci idx) {as : List zz_V} {h : List zz_C} {g : zz_G} {outs : List zz_O} (hM : zr_Met l D 9 mi (.inr (.inl 1) :: as) h g outs) {ρ : List Nat} {ν : List Int32} {ws : va_W} {q0 : Nat} {fvs : List Value} {vs : List Value} (hH : zr_H s ρ ν h ws) (hw : ws[0]? = some (q0, .inr (ci, fvs))) (hVs : zr_Vs ρ ν as vs) (hG : zr_G g ν) (hP : va_P D zz_cl ws H) (hD : va_D A ws) (hA : ∀ q : Nat, s.heap.size ≤ q → A q) (hS : va_S A s.heap H locs) (hlen : vs.length = n) {ls : Array Slot} (hsz : ls.size = 4) {pc : Nat} (hdg : decode code pc = .ok (.invokevirtual idx, 3)) {rest : List Value} (hrest : (rest.map fun v => v.category).sum ≤ 8) (hbd : nc + zz_mc outs ≤ 600000 ∧ ns + zz_ms outs ≤ 7302250)
    (hn : ∀ o ∈ outs, ∀ (ρ2 : List Nat) (ν2 : List Int32) (w2 : va_W) (rv : Option Value) (H2 : Heap) (locs2 : List Loc), ρ <+: ρ2 → ν <+: ν2 → zr_G o.2.2.1 ν2 → zr_H s ρ2 ν2 o.2.1 w2 → zr_Vo ρ2 ν2 o.1 rv → va_P D zz_cl w2 H2 → va_D (va_A ws H.size) w2 → H.size ≤ H2.size → (∀ q : Nat, q < H.size → ¬ va_A ws H.size q → H2[q]? = H[q]?) → va_S A s.heap H2 locs2 → W p l e room_1 s m #[Value.ref b] below meth c H2 locs2 (nc + zz_mc outs) (ns + zz_ms outs) Q (F0 m (pc + 3) ls (rv.toList ++ rest))) : W p l e room_1 s m #[Value.ref b] below meth c H locs nc ns Q (F0 m pc ls (vs.reverse ++ .ref q0 :: rest)) := by
  obtain ⟨C, T, N, nC, y, cc2, ret2, code2, pcs2, hm, hcode, hnl, hcl, hlink, hinst, hsel, hini, hd⟩ := hm
  have hF : ∀ q, va_A ws H.size q → A q := by
    rintro q (⟨k, e, hk⟩ | hq)
    · exact hD.2 k _ hk
    · exact hA q (Nat.le_trans hS.1 hq)
  obtain ⟨d2, hd2, hM⟩ := hM
  have hM := hM ρ ν ws (.ref q0 :: vs) H.size (zz_mc outs) (zz_ms outs) ⟨⟨q0, hH.ref hw, rfl⟩, hVs⟩ hG (fun o ho => zl_mc ho)
  unfold zm_y zm_ws at hM
  rw [hm] at hM
  refine zL_called (va := (Value.ref q0 :: vs).toArray) hS hF hn ?_
  exact va_runV (As := vs) (rest := rest) ⟨hx, hb, hml, hown, hts⟩ hM (cwV n hts (zg_in zg_ok (fun w hw => by
      rcases List.mem_append.mp hw with hw | hw
      · rcases List.mem_cons.mp hw with rfl | hw
        · exact hlink
        · rcases List.mem_cons.mp hw with rfl | hw
          · exact hinst
          · rcases List.mem_cons.mp hw with rfl | hw
            · exact hsel
            · rw [List.mem_singleton.mp hw]; exact hini
      · rcases List.mem_cons.mp hw with rfl | hw
        · exact hcode
        · exact hw)) rfl rfl rfl hd ⟨by show d2 + 1 ≤ 10; omega, by show 8 + (nC + 11) + 39 * d2 ≤ 394; omega⟩)
    ⟨zr_blind, va_recv hK hP hcl hw, zr_pre (vs := .ref q0 :: vs) hK hP hD hH hEx⟩ rfl hlen hsz rfl (lv_room hrest) hdg hbd
/-- a constructor that the law calls -/
def zL_init (mi ci idx : Nat) : Prop := ∃ (C : String) (T : u_T) (N nC : Nat) (y : MethodName) (cc2 : ByteArray) (code2 : List zz_Op) (pcs2 : List Nat), zm_all mi = (code2, nC, y, cc2, none, pcs2) ∧ Cond.code y cc2 nC none ∈ zg_tbl ∧ nC ≤ 20 ∧ zz_cl[ci]? = some (C, T, N) ∧ Cond.methodLink "EvenBodiesLaw" idx y ∈ zg_tbl ∧ Cond.instanceMethod y ∈ zg_tbl ∧ Cond.initialized y.cls ∈ zg_tbl ∧ y.name = "<init>" ∧ (y.cls ≠ "java/lang/invoke/MethodHandle" ∧ y.cls ≠ "java/lang/invoke/VarHandle" ∧ (parseMethodDescriptor y.desc).map (fun d => d.parameters.length) = some 0)
theorem zL_callI (hx : p.tables.exec = Jvm.exec) (hb : c.code = code) (hml : c.maxLocals = 4) (hown : s.vm.findClass "EvenBodiesLaw" = some m.cls) (hts : ∀ w ∈ zg_tbl, w.before #[Value.ref b] s = true) {D : va_G} (hK : va_K D zz_cl [] s) (hEx : zr_Ex s) {mi ci idx : Nat} (hm : zL_init mi ci idx) {h : List zz_C} {outs : List zz_O} (hM : zr_Met l D 9 mi [.inr (.inl 1)] h [] outs) {ρ : List Nat} {ws : va_W} {q0 : Nat} {fvs : List Value} (hH : zr_H s ρ [] h ws) (hw : ws[0]? = some (q0, .inr (ci, fvs))) (hP : va_P D zz_cl ws H) (hD : va_D A ws) (hA : ∀ q : Nat, s.heap.size ≤ q → A q) (hS : va_S A s.heap H locs) {ls : Array Slot} (hsz : ls.size = 4) {pc : Nat} (hdg : decode code pc = .ok (.invokespecial idx, 3)) {rest : List Value} (hrest : (rest.map fun v => v.category).sum ≤ 8) (hbd : nc + zz_mc outs ≤ 600000 ∧ ns + zz_ms outs ≤ 7302250)
    (hn : ∀ o ∈ outs, ∀ (ρ2 : List Nat) (ν2 : List Int32) (w2 : va_W) (rv : Option Value) (H2 : Heap) (locs2 : List Loc), ρ <+: ρ2 → [] <+: ν2 → zr_G o.2.2.1 ν2 → zr_H s ρ2 ν2 o.2.1 w2 → zr_Vo ρ2 ν2 o.1 rv → va_P D zz_cl w2 H2 → va_D (va_A ws H.size) w2 → H.size ≤ H2.size → (∀ q : Nat, q < H.size → ¬ va_A ws H.size q → H2[q]? = H[q]?) → va_S A s.heap H2 locs2 → W p l e room_1 s m #[Value.ref b] below meth c H2 locs2 (nc + zz_mc outs) (ns + zz_ms outs) Q (F0 m (pc + 3) ls (rv.toList ++ rest))) : W p l e room_1 s m #[Value.ref b] below meth c H locs nc ns Q (F0 m pc ls (.ref q0 :: rest)) := by
  obtain ⟨C, T, N, nC, y, cc2, code2, pcs2, hm, hcode, hnl, hcl, hlink, hinst, hini, hy1, hd⟩ := hm
  have hF : ∀ q, va_A ws H.size q → A q := by
    rintro q (⟨k, e, hk⟩ | hq)
    · exact hD.2 k _ hk
    · exact hA q (Nat.le_trans hS.1 hq)
  obtain ⟨d2, hd2, hM⟩ := hM
  have hM := hM ρ [] ws [.ref q0] H.size (zz_mc outs) (zz_ms outs) ⟨⟨q0, hH.ref hw, rfl⟩, trivial⟩ ⟨rfl, fun k lo hi tag h => by simp at h⟩ (fun o ho => zl_mc ho)
  unfold zm_y zm_ws at hM
  rw [hm] at hM
  refine zL_called (va := [Value.ref q0].toArray) hS hF hn ?_
  exact va_runI (As := []) (rest := rest) ⟨hx, hb, hml, hown, hts⟩ hM (cwI 0 hts (zg_in zg_ok (fun w hw => by
      rcases List.mem_cons.mp hw with rfl | hw
      · exact hcode
      · exact hw)) rfl rfl rfl (hts _ hini) (hts _ hlink) (hts _ hinst) hy1 hd ⟨by show d2 + 1 ≤ 10; omega, by show 8 + (nC + 11) + 39 * d2 ≤ 394; omega⟩)
    ⟨zr_blind, zr_pre (vs := [.ref q0]) hK hP hD hH hEx⟩ rfl rfl hsz rfl (lv_room hrest) hdg hbd
end ZLW
/-! WHAT IS COMPARED -/
noncomputable def zz_sameV (g : zz_G) (v w : zz_V) : Bool := match zz_iv g v, zz_iv g w with
  | some (a, b), some (c, d) => Nat.beq a b && (Nat.beq c d && Nat.beq a c)
  | _, _ => false
noncomputable def zz_sameI (g : zz_G) (v w : Option zz_V) : Bool := match v, w with
  | some v, some w => zz_sameV g v w
  | _, _ => false
def zz_sameJ (_ : zz_G) (v w : Option zz_V) : Bool := match v, w with
  | some (.inr (.inr (.inl a))), some (.inr (.inr (.inl b))) => Nat.beq a b
  | _, _ => false
theorem zL_isInt {g : zz_G} {v : zz_V} {q : Nat × Nat} (h : zz_iv g v = some q) {ρ : List Nat} {ν : List Int32} {x : Value} (hv : zr_V ρ ν v x) : ∃ i : Int32, x = .int i := by
  match v, h, hv with
  | .inl n, _, hv => exact ⟨_, hv⟩
  | .inr (.inr (.inr k)), _, ⟨i, _, hi⟩ => exact ⟨i, hi⟩
  | .inr (.inl _), h, _ => exact nomatch (show (none : Option (Nat × Nat)) = some q from h)
  | .inr (.inr (.inl _)), h, _ => exact nomatch (show (none : Option (Nat × Nat)) = some q from h)
theorem zL_sameI {g : zz_G} {ν2 ν3 : List Int32} {ρ2 ρ3 : List Nat} (hG : zr_G g ν3) (hν : ν2 <+: ν3) {v w : Option zz_V} (h : zz_sameI g v w = true) {rv rw : Option Value} (hv : zr_Vo ρ2 ν2 v rv) (hw : zr_Vo ρ3 ν3 w rw) : ∃ i : Int32, rv = some (.int i) ∧ rw = some (.int i) := by
  match v, w, h with
  | some v, some w, h =>
  match rv, rw, hv, hw with
  | some x, some y, hv, hw =>
  have hv : zr_V ρ2 ν3 v x := zr_V.mono (List.prefix_refl _) hν hv
  have hw : zr_V ρ3 ν3 w y := hw
  have h : zz_sameV g v w = true := h
  unfold zz_sameV at h
  match h1 : zz_iv g v, h2 : zz_iv g w with
  | none, _ => rw [h1] at h; cases h
  | some _, none => rw [h1, h2] at h; cases h
  | some (a, b), some (c, d) =>
  rw [h1, h2] at h
  simp only [Bool.and_eq_true] at h
  obtain ⟨e1, e2, e3⟩ := h
  have e1 := Nat.eq_of_beq_eq_true e1
  have e2 := Nat.eq_of_beq_eq_true e2
  have e3 := Nat.eq_of_beq_eq_true e3
  obtain ⟨i, rfl⟩ := zL_isInt h1 hv
  obtain ⟨j, rfl⟩ := zL_isInt h2 hw
  have i1 := zr_iv hG h1 hv
  have i2 := zr_iv hG h2 hw
  have : i = j := zl_b_inj (by omega)
  subst this
  exact ⟨i, rfl, rfl⟩
theorem zL_sameJ {g : zz_G} {ν2 ν3 : List Int32} {ρ2 ρ3 : List Nat} {v w : Option zz_V} (h : zz_sameJ g v w = true) {rv rw : Option Value} (hv : zr_Vo ρ2 ν2 v rv) (hw : zr_Vo ρ3 ν3 w rw) : ∃ i : Int64, rv = some (.long i) ∧ rw = some (.long i) := by
  unfold zz_sameJ at h
  split at h
  · rename_i a b
    have h := Nat.eq_of_beq_eq_true h
    subst h
    match rv, rw, hv, hw with
    | some x, some y, hv, hw =>
    have hv : x = .long (lN a) := hv
    have hw : y = .long (lN a) := hw
    subst hv hw
    exact ⟨_, rfl, rfl⟩
  · cases h
noncomputable def zz_all {α : Type} (f : α → Bool) (l : List α) : Bool := List.rec (motive := fun _ => Bool) true (fun a _ ih => bif f a then ih else false) l
theorem zL_all {α : Type} {f : α → Bool} : ∀ {l : List α}, zz_all f l = true → ∀ a ∈ l, f a = true
  | x :: l, h, a, ha => by
    have h : (bif f x then zz_all f l else false) = true := h
    cases hx : f x with
    | false => rw [hx] at h; cases h
    | true =>
      rw [hx] at h
      rcases List.mem_cons.mp ha with rfl | ha
      · exact hx
      · exact zL_all h a ha
noncomputable def zz_few (outs : List zz_O) : Bool := Nat.ble (zz_mc outs) 250000 && Nat.ble (zz_ms outs) 3000000
/-- class and reference answer alike -/
noncomputable def zz_both (same : zz_G → Option zz_V → Option zz_V → Bool) (sm : Nat → Nat → List zz_V → List zz_C → zz_G → Option (List zz_O)) (xi yi : Nat) (as : List zz_V) (hx hm : List zz_C) (g : zz_G) : Bool := match zz_eval sm zz_mt 9 xi (.inr (.inl 1) :: as) hx g with
  | none => false
  | some outs => bif zz_few outs then zz_all (fun (o : zz_O) => match zz_eval sm zz_mt 9 yi (.inr (.inl 1) :: as) hm o.2.2.1 with
    | none => false
    | some outs2 => bif zz_few outs2 then zz_all (fun (o2 : zz_O) => same o2.2.2.1 o.1 o2.1) outs2 else false) outs else false
theorem zL_both {same : zz_G → Option zz_V → Option zz_V → Bool} {sm : Nat → Nat → List zz_V → List zz_C → zz_G → Option (List zz_O)} {xi yi : Nat} {as : List zz_V} {hx hm : List zz_C} {g : zz_G} (h : zz_both same sm xi yi as hx hm g = true) : ∃ outs, zz_eval sm zz_mt 9 xi (.inr (.inl 1) :: as) hx g = some outs ∧ (zz_mc outs ≤ 250000 ∧ zz_ms outs ≤ 3000000) ∧ ∀ o ∈ outs, ∃ outs2, zz_eval sm zz_mt 9 yi (.inr (.inl 1) :: as) hm o.2.2.1 = some outs2 ∧ (zz_mc outs2 ≤ 250000 ∧ zz_ms outs2 ≤ 3000000) ∧ ∀ o2 ∈ outs2, same o2.2.2.1 o.1 o2.1 = true := by
  have few : ∀ {outs : List zz_O}, zz_few outs = true → zz_mc outs ≤ 250000 ∧ zz_ms outs ≤ 3000000 := by
    intro outs h
    unfold zz_few at h
    rw [Bool.and_eq_true] at h
    exact ⟨Nat.le_of_ble_eq_true h.1, Nat.le_of_ble_eq_true h.2⟩
  unfold zz_both at h
  cases h1 : zz_eval sm zz_mt 9 xi (.inr (.inl 1) :: as) hx g with
  | none => rw [h1] at h; cases h
  | some outs =>
    rw [h1] at h
    have h : (bif zz_few outs then zz_all (fun (o : zz_O) => match zz_eval sm zz_mt 9 yi (.inr (.inl 1) :: as) hm o.2.2.1 with
      | none => false
      | some outs2 => bif zz_few outs2 then zz_all (fun (o2 : zz_O) => same o2.2.2.1 o.1 o2.1) outs2 else false) outs else false) = true := h
    cases hf : zz_few outs with
    | false => rw [hf] at h; cases h
    | true =>
      rw [hf] at h
      refine ⟨outs, rfl, few hf, fun o ho => ?_⟩
      have h2 := zL_all h o ho
      cases h3 : zz_eval sm zz_mt 9 yi (.inr (.inl 1) :: as) hm o.2.2.1 with
      | none => rw [h3] at h2; cases h2
      | some outs2 =>
        rw [h3] at h2
        have h2 : (bif zz_few outs2 then zz_all (fun (o2 : zz_O) => same o2.2.2.1 o.1 o2.1) outs2 else false) = true := h2
        cases hf2 : zz_few outs2 with
        | false => rw [hf2] at h2; cases h2
        | true =>
          rw [hf2] at h2
          exact ⟨outs2, rfl, few hf2, fun o2 ho2 => zL_all h2 o2 ho2⟩
