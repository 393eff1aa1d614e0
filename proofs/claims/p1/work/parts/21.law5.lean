/-! THE LAW FROM ITS ENTRY (written by wip/p1/genlaw.py) -/
theorem zi_0 : Cond.instantiable RX0 12 ∈ zg_tbl := zq1 _ (List.mem_of_getElem? (i := 25) (by decide +kernel)) rfl
theorem zi_1 : Cond.instantiable RX1 11 ∈ zg_tbl := zq3 _ (List.mem_of_getElem? (i := 65) (by decide +kernel)) rfl
theorem zi_2 : Cond.instantiable RX2 4 ∈ zg_tbl := zq1 _ (List.mem_of_getElem? (i := 31) (by decide +kernel)) rfl
theorem zi_3 : Cond.instantiable RX3 12 ∈ zg_tbl := zq1 _ (List.mem_of_getElem? (i := 212) (by decide +kernel)) rfl
theorem zi_4 : Cond.instantiable RX4 5 ∈ zg_tbl := zq2 _ (List.mem_of_getElem? (i := 175) (by decide +kernel)) rfl
theorem zi_5 : Cond.instantiable RX7 4 ∈ zg_tbl := zq1 _ (List.mem_of_getElem? (i := 16) (by decide +kernel)) rfl
theorem zi_6 : Cond.instantiable RX8 35 ∈ zg_tbl := zq4 _ (List.mem_of_getElem? (i := 216) (by decide +kernel)) rfl
theorem zn_0 : Cond.classLink "EvenBodiesLaw" 7 RX7 ∈ zg_tbl := zq1 _ (List.mem_of_getElem? (i := 15) (by decide +kernel)) rfl
theorem zn_1 : Cond.initialized RX7 ∈ zg_tbl := zq1 _ (List.mem_of_getElem? (i := 1) (by decide +kernel)) rfl
theorem zn_2 : Cond.classLink "EvenBodiesLaw" 10 RX8 ∈ zg_tbl := zq4 _ (List.mem_of_getElem? (i := 215) (by decide +kernel)) rfl
theorem zn_3 : Cond.initialized RX8 ∈ zg_tbl := zq1 _ (List.mem_of_getElem? (i := 5) (by decide +kernel)) rfl
theorem zL_ex1 : Cond.arrayOver (.object "EvenBodies$Body") ∈ lw_tbl := List.mem_append_right _ (List.mem_append_left _ (List.mem_of_getElem? (i := 24) (by decide +kernel)))
theorem zL_ex2 : Cond.methodLinkNest RX7 15 yX0_init "EvenBodies" ∈ lw_tbl := List.mem_append_right _ (List.mem_append_left _ (List.mem_of_getElem? (i := 26) (by decide +kernel)))
theorem zL_known {s : State} {args : Array Value} (hts : ∀ w ∈ zg_tbl, w.before args s = true) : ∃ D : va_G, va_K D zz_cl [] s := by
  obtain ⟨c0, i0, h0⟩ := u_known (C := RX0) (T := TX0) (N := 12) (n := 12) hts zin_X0 (hts _ zi_0)
  obtain ⟨c1, i1, h1⟩ := u_known (C := RX1) (T := TX1) (N := 11) (n := 11) hts zin_X1 (hts _ zi_1)
  obtain ⟨c2, i2, h2⟩ := u_known (C := RX2) (T := TX2) (N := 4) (n := 4) hts zin_X2 (hts _ zi_2)
  obtain ⟨c3, i3, h3⟩ := u_known (C := RX3) (T := TX3) (N := 12) (n := 12) hts zin_X3 (hts _ zi_3)
  obtain ⟨c4, i4, h4⟩ := u_known (C := RX4) (T := TX4) (N := 5) (n := 5) hts zin_X4 (hts _ zi_4)
  obtain ⟨c5, i5, h5⟩ := u_known (C := RX7) (T := TX7) (N := 4) (n := 4) hts zin_X7 (hts _ zi_5)
  obtain ⟨c6, i6, h6⟩ := u_known (C := RX8) (T := TX8) (N := 35) (n := 35) hts zin_X8 (hts _ zi_6)
  refine ⟨(fun k => [c0, c1, c2, c3, c4, c5, c6].getD k c0, fun k => [i0, i1, i2, i3, i4, i5, i6].getD k i0), fun k q hq => ?_, fun k q h => by simp at h⟩
  match k, hq with
  | 0, hq => cases hq; exact h0
  | 1, hq => cases hq; exact h1
  | 2, hq => cases hq; exact h2
  | 3, hq => cases hq; exact h3
  | 4, hq => cases hq; exact h4
  | 5, hq => cases hq; exact h5
  | 6, hq => cases hq; exact h6
  | k + 7, hq => simp [zz_cl] at hq
theorem zL_mask (v : Int32) : ∃ n : Nat, n < 64 ∧ v &&& 63 = nI n := by
  refine ⟨Nat.land (zz_b (zr_b v)) 63, ?_, ?_⟩
  · show (zz_b (zr_b v)) &&& (2 ^ 6 - 1) < 64
    rw [Nat.and_two_pow_sub_one_eq_mod]
    omega
  · have e : v &&& 63 = nI (zz_b (zr_b v)) &&& nI 63 := by rw [← zl_b_back]; rfl
    rw [e, nx_and]
    rfl
theorem zL_less : ∀ L : Nat, L < 6 → Int32.ofNat L - 6 < 0 := by decide +kernel
theorem zL_shx : ∀ c ∈ zh_x, zz_shutC c = true := zL_all (by decide +kernel)
theorem zL_shm : ∀ c ∈ zh_m, zz_shutC c = true := zL_all (by decide +kernel)
theorem zL_none {ρ : List Nat} {ν : List Int32} {rv : Option Value} (h : zr_Vo ρ ν none rv) : rv = none := by
  match rv, h with
  | none, _ => rfl
theorem zL_splitP {D : va_G} {cl : List vw_C} {a b : va_W} {H : Heap} (h : va_P D cl (a ++ b) H) : va_P D cl a H ∧ va_P D cl b H := by
  refine ⟨fun k q hq => h k q ?_, fun k q hq => h (a.length + k) q ?_⟩
  · rw [List.getElem?_append_left (List.getElem?_eq_some_iff.mp hq).1]
    exact hq
  · rw [List.getElem?_append_right (by omega), show a.length + k - a.length = k by omega]
    exact hq
theorem zL_splitD {A : Nat → Prop} {a b : va_W} (h : va_D A (a ++ b)) : va_D A b ∧ ∀ (i j : Nat) (x y : Nat × va_E), b[i]? = some x → a[j]? = some y → x.1 ≠ y.1 := by
  have ha : ∀ {j : Nat} {y : Nat × va_E}, a[j]? = some y → (a ++ b)[j]? = some y ∧ j < a.length := fun hq => ⟨by rw [List.getElem?_append_left (List.getElem?_eq_some_iff.mp hq).1]; exact hq, (List.getElem?_eq_some_iff.mp hq).1⟩
  have hb : ∀ {i : Nat} {x : Nat × va_E}, b[i]? = some x → (a ++ b)[a.length + i]? = some x := fun {i x} hq => by
    rw [List.getElem?_append_right (by omega), show a.length + i - a.length = i by omega]
    exact hq
  refine ⟨⟨fun i j p q hp hq e => ?_, fun k q hq => h.2 _ q (hb hq)⟩, fun i j x y hx hy e => ?_⟩
  · have := h.1 _ _ p q (hb hp) (hb hq) e
    omega
  · have := h.1 _ _ x y (hb hx) (ha hy).1 e
    have := (ha hy).2
    omega
/-- a world's first cell -/
theorem zL_first {s : State} {ρ : List Nat} {ν : List Int32} {h : List zz_C} {ws : va_W} (hH : zr_H s ρ ν h ws) {ci : Nat} {fs : List zz_V} (h0 : h[0]? = some (.inl (ci, fs))) {q : Nat} (hq : [q] <+: ρ) : ∃ fvs : List Value, ws[0]? = some (q, .inr (ci, fvs)) := by
  obtain ⟨q2, e, h1, h2⟩ := hH.2.2 0 _ h0
  have e1 : ρ[0]? = some q := zl_pre hq rfl
  have e2 := hH.ref h1
  rw [e1] at e2
  cases e2
  match e, h2 with
  | .inr (_, fvs), ⟨rfl, _⟩ => exact ⟨fvs, h1⟩
theorem zL_free {A : Nat → Prop} {s : State} {ws : va_W} {H : Heap} {locs : List Loc} (hD : va_D A ws) (hS : va_S A s.heap H locs) (hA : ∀ q : Nat, s.heap.size ≤ q → A q) : ∀ q, va_A ws H.size q → A q := by
  rintro q (⟨k, e, hk⟩ | hq)
  · exact hD.2 k _ hk
  · exact hA q (Nat.le_trans hS.1 hq)
theorem zl_33 : decode code 33 = .ok (.tableswitch 1775 0 43 #[191, 224, 277, 310, 353, 396, 419, 452, 495, 528, 571, 604, 637, 670, 703, 726, 759, 802, 835, 878, 921, 964, 1017, 1080, 1133, 1166, 1189, 1232, 1265, 1308, 1341, 1395, 1418, 1451, 1484, 1507, 1540, 1563, 1596, 1639, 1672, 1705, 1738, 1761], 191) := by decide +kernel
theorem zL_switch {p : Program} {l : Launch} {e : Env} {R : Room} {s : State} {m : MethodId} {args : Array Value} {below : List Frame} {meth : Method} {c : Code} {H : Heap} {locs : List Loc} {nc ns : Nat} {Q : State → Prop} {ls : Array Slot} (hx : p.tables.exec = Jvm.exec) (hb : c.code = code) {n : Nat} (hn : n < 44) (key : ∀ pc : Nat, zL_goal pc → W p l e R s m args below meth c H locs nc ns Q (F0 m pc ls [])) : W p l e R s m args below meth c H locs nc ns Q (F0 m 33 ls [.int (nI n)]) := by
  match n, hn with
  | 0, _ => exact lv_tableIn (off := 191) (tgt := 224) hx hb zl_33 (by decide) (by decide) (by decide +kernel) (by decide) (key 224 zc_law_body)
  | 1, _ => exact lv_tableIn (off := 224) (tgt := 257) hx hb zl_33 (by decide) (by decide) (by decide +kernel) (by decide) (key 257 zc_law_angle)
  | 2, _ => exact lv_tableIn (off := 277) (tgt := 310) hx hb zl_33 (by decide) (by decide) (by decide +kernel) (by decide) (key 310 zc_law_ring)
  | 3, _ => exact lv_tableIn (off := 310) (tgt := 343) hx hb zl_33 (by decide) (by decide) (by decide +kernel) (by decide) (key 343 zc_law_order)
  | 4, _ => exact lv_tableIn (off := 353) (tgt := 386) hx hb zl_33 (by decide) (by decide) (by decide +kernel) (by decide) (key 386 zc_law_about)
  | 5, _ => exact lv_tableIn (off := 396) (tgt := 429) hx hb zl_33 (by decide) (by decide) (by decide +kernel) (by decide) (key 429 zc_law_size)
  | 6, _ => exact lv_tableIn (off := 419) (tgt := 452) hx hb zl_33 (by decide) (by decide) (by decide +kernel) (by decide) (key 452 zc_law_length)
  | 7, _ => exact lv_tableIn (off := 452) (tgt := 485) hx hb zl_33 (by decide) (by decide) (by decide +kernel) (by decide) (key 485 zc_law_letter)
  | 8, _ => exact lv_tableIn (off := 495) (tgt := 528) hx hb zl_33 (by decide) (by decide) (by decide +kernel) (by decide) (key 528 zc_law_element)
  | 9, _ => exact lv_tableIn (off := 528) (tgt := 561) hx hb zl_33 (by decide) (by decide) (by decide +kernel) (by decide) (key 561 zc_law_product)
  | 10, _ => exact lv_tableIn (off := 571) (tgt := 604) hx hb zl_33 (by decide) (by decide) (by decide +kernel) (by decide) (key 604 zc_law_inverse)
  | 11, _ => exact lv_tableIn (off := 604) (tgt := 637) hx hb zl_33 (by decide) (by decide) (by decide +kernel) (by decide) (key 637 zc_law_turns)
  | 12, _ => exact lv_tableIn (off := 637) (tgt := 670) hx hb zl_33 (by decide) (by decide) (by decide +kernel) (by decide) (key 670 zc_law_classSize)
  | 13, _ => exact lv_tableIn (off := 670) (tgt := 703) hx hb zl_33 (by decide) (by decide) (by decide +kernel) (by decide) (key 703 zc_law_ofLength)
  | 14, _ => exact lv_tableIn (off := 703) (tgt := 736) hx hb zl_33 (by decide) (by decide) (by decide +kernel) (by decide) (key 736 zc_law_mirrors)
  | 15, _ => exact lv_tableIn (off := 726) (tgt := 759) hx hb zl_33 (by decide) (by decide) (by decide +kernel) (by decide) (key 759 zc_law_kinds)
  | 16, _ => exact lv_tableIn (off := 759) (tgt := 792) hx hb zl_33 (by decide) (by decide) (by decide +kernel) (by decide) (key 792 zc_law_kind)
  | 17, _ => exact lv_tableIn (off := 802) (tgt := 835) hx hb zl_33 (by decide) (by decide) (by decide +kernel) (by decide) (key 835 zc_law_parts)
  | 18, _ => exact lv_tableIn (off := 835) (tgt := 868) hx hb zl_33 (by decide) (by decide) (by decide +kernel) (by decide) (key 868 zc_law_partOf)
  | 19, _ => exact lv_tableIn (off := 878) (tgt := 911) hx hb zl_33 (by decide) (by decide) (by decide +kernel) (by decide) (key 911 zc_law_least)
  | 20, _ => exact lv_tableIn (off := 921) (tgt := 954) hx hb zl_33 (by decide) (by decide) (by decide +kernel) (by decide) (key 954 zc_law_corners)
  | 21, _ => exact lv_tableIn (off := 964) (tgt := 997) hx hb zl_33 (by decide) (by decide) (by decide +kernel) (by decide) (key 997 zc_law_cornerOf)
  | 22, _ => exact lv_tableIn (off := 1017) (tgt := 1050) hx hb zl_33 (by decide) (by decide) (by decide +kernel) (by decide) (key 1050 zc_law_liesIn)
  | 23, _ => exact lv_tableIn (off := 1080) (tgt := 1113) hx hb zl_33 (by decide) (by decide) (by decide +kernel) (by decide) (key 1113 zc_law_within)
  | 24, _ => exact lv_tableIn (off := 1133) (tgt := 1166) hx hb zl_33 (by decide) (by decide) (by decide +kernel) (by decide) (key 1166 zc_law_count)
  | 25, _ => exact lv_tableIn (off := 1166) (tgt := 1199) hx hb zl_33 (by decide) (by decide) (by decide +kernel) (by decide) (key 1199 zc_law_law)
  | 26, _ => exact lv_tableIn (off := 1189) (tgt := 1222) hx hb zl_33 (by decide) (by decide) (by decide +kernel) (by decide) (key 1222 zc_law_moves)
  | 27, _ => exact lv_tableIn (off := 1232) (tgt := 1265) hx hb zl_33 (by decide) (by decide) (by decide +kernel) (by decide) (key 1265 zc_law_degree)
  | 28, _ => exact lv_tableIn (off := 1265) (tgt := 1298) hx hb zl_33 (by decide) (by decide) (by decide +kernel) (by decide) (key 1298 zc_law_far)
  | 29, _ => exact lv_tableIn (off := 1308) (tgt := 1341) hx hb zl_33 (by decide) (by decide) (by decide +kernel) (by decide) (key 1341 zc_law_layer)
  | 30, _ => exact lv_tableIn (off := 1341) (tgt := 1374) hx hb zl_33 (by decide) (by decide) (by decide +kernel) (by decide) (key 1374 zc_law_ways)
  | 31, _ => exact lv_tableIn (off := 1395) (tgt := 1428) hx hb zl_33 (by decide) (by decide) (by decide +kernel) (by decide) (key 1428 zc_law_coloured)
  | 32, _ => exact lv_tableIn (off := 1418) (tgt := 1451) hx hb zl_33 (by decide) (by decide) (by decide +kernel) (by decide) (key 1451 zc_law_round)
  | 33, _ => exact lv_tableIn (off := 1451) (tgt := 1484) hx hb zl_33 (by decide) (by decide) (by decide +kernel) (by decide) (key 1484 zc_law_alike)
  | 34, _ => exact lv_tableIn (off := 1484) (tgt := 1517) hx hb zl_33 (by decide) (by decide) (by decide +kernel) (by decide) (key 1517 zc_law_unlike)
  | 35, _ => exact lv_tableIn (off := 1507) (tgt := 1540) hx hb zl_33 (by decide) (by decide) (by decide +kernel) (by decide) (key 1540 zc_law_snub)
  | 36, _ => exact lv_tableIn (off := 1540) (tgt := 1573) hx hb zl_33 (by decide) (by decide) (by decide +kernel) (by decide) (key 1573 zc_law_snubLaw)
  | 37, _ => exact lv_tableIn (off := 1563) (tgt := 1596) hx hb zl_33 (by decide) (by decide) (by decide +kernel) (by decide) (key 1596 zc_law_snubDegree)
  | 38, _ => exact lv_tableIn (off := 1596) (tgt := 1629) hx hb zl_33 (by decide) (by decide) (by decide +kernel) (by decide) (key 1629 zc_law_snubFar)
  | 39, _ => exact lv_tableIn (off := 1639) (tgt := 1672) hx hb zl_33 (by decide) (by decide) (by decide +kernel) (by decide) (key 1672 zc_law_snubFaces)
  | 40, _ => exact lv_tableIn (off := 1672) (tgt := 1705) hx hb zl_33 (by decide) (by decide) (by decide +kernel) (by decide) (key 1705 zc_law_dual)
  | 41, _ => exact lv_tableIn (off := 1705) (tgt := 1738) hx hb zl_33 (by decide) (by decide) (by decide +kernel) (by decide) (key 1738 zc_law_dualDegree)
  | 42, _ => exact lv_tableIn (off := 1738) (tgt := 1771) hx hb zl_33 (by decide) (by decide) (by decide +kernel) (by decide) (key 1771 zc_law_dualFar)
  | 43, _ => exact lv_tableIn (off := 1761) (tgt := 1794) hx hb zl_33 (by decide) (by decide) (by decide +kernel) (by decide) (key 1794 zc_law_digest)
  | n + 44, hn => exact absurd hn (by omega)
theorem whole_start {p : Program} {e : Env} {s : State} {m : MethodId} {below : List Frame} {meth : Method} {c : Code} (l : Launch) (hflags : l.flags = flags0) {b L : Nat} {xs : Nat → Int32} (hL : L ≤ 6) (C0 : lw_At p s m meth c b L xs) : W p l e room_1 s m #[Value.ref b] below meth c s.heap [] 0 0 (lw_Z below #[Value.ref b] s) (entryFrame m ([Value.ref b] : List Value).toArray 4) := by
  obtain ⟨hx, hb, hr, hml, hown, hts, hX, hbl, hlocks, hgv⟩ := id C0
  have hts2 : ∀ w ∈ zg_tbl, w.before #[Value.ref b] s = true := fun w hw => hts w (List.mem_filter.mp hw).1
  have hbA : ¬ zL_A s b := Nat.not_le.mpr hbl
  have hA : ∀ q : Nat, s.heap.size ≤ q → zL_A s q := fun _ h => h
  obtain ⟨D, hK⟩ := zL_known hts2
  have hEx : zr_Ex s := ⟨va_AO.of (hts _ zL_ex1), va_Nw.of rfl (hts _ zL_ex2)⟩
  have hS : va_S (zL_A s) s.heap s.heap [] := va_S.rf
  have hP : va_P D zz_cl [] s.heap := fun k q h => by simp at h
  have hD : va_D (zL_A s) [] := ⟨fun i j p q h => by simp at h, fun k q h => by simp at h⟩
  have hl := lv_entry ([.ref b]) (n := 4) (Nat.le_of_ble_eq_true rfl)
  rw [lg_entry_eq]
  generalize (lg_sl ([.ref b]) ++ List.replicate (4 - (lg_sl ([.ref b])).length) Slot.unset).toArray = ls at hl ⊢
  have hl : lv_has ls 4 [(0, .ref b)] := hl
  refine va_new (ci := 5) (fs := zvs_X7) (C := RX7) (T := TX7) (N := 4) hx hb hts2 zin_X7 tyX7 tyX7_ok hown (hts2 _ zn_0) (hts2 _ zi_5) (hts2 _ zn_1) hK hP hD hS hA rfl zvs_X7_d (by decide) (by decide) zl_0 (fun qx H1 hP1 hD1 hS1 => ?_)
  have hP1 : va_P D zz_cl [(qx, .inr (5, zvs_X7))] H1 := hP1
  have hD1 : va_D (zL_A s) [(qx, .inr (5, zvs_X7))] := hD1
  refine lv_dup hx hb zl_3 rfl ?_
  have hM := (zr_sound zr_tab_ok (zz_smB_ok l D zz_tab_ok) 9 _ _ _ _ _ zt_xinit).2
  have hH1 : zr_H s [qx] [] zh_x0 [(qx, .inr (5, zvs_X7))] := ⟨rfl, rfl, fun k c hk => by
    match k, hk with
    | 0, hk => cases hk; exact ⟨qx, _, rfl, rfl, zvs_X7_ok _ _⟩
    | k + 1, hk => simp [zh_x0] at hk⟩
  have hF1 := zL_free hD1 hS1 hA
  refine zL_callI (rest := [.ref qx]) hx hb hml hown hts2 hK hEx zx_init hM hH1 rfl hP1 hD1 hA hS1 hl.1 zl_4 (Nat.le_of_ble_eq_true rfl) ⟨by decide +kernel, by decide +kernel⟩ (fun o ho ρx ν2 wx rv H2 locs2 hρ hν hG hHx hVo hPx hDx hz hk hS2 => ?_)
  have ho := List.mem_singleton.mp ho
  subst ho
  have hrv := zL_none hVo
  subst hrv
  have hHx : zr_H s ρx [] zh_x wx := zr_H.shut zL_shx hHx
  obtain ⟨fx, hwx⟩ := zL_first hHx (ci := 5) rfl hρ
  have hDx : va_D (zL_A s) wx := hDx.weaken (fun k q _ h => hF1 q.1 h)
  refine W.widen (k := 26) (n := 220) (by decide +kernel) (by decide +kernel) ?_
  show W p l e room_1 s m #[Value.ref b] below meth c H2 locs2 26 220 (lw_Z below #[Value.ref b] s) (F0 m 7 ls [.ref qx])
  refine lv_astore_n (lv' := [(1, .ref qx), (0, .ref b)]) hx hb zl_7 rfl hl (by decide) rfl (fun ls hl => ?_)
  refine va_new (ci := 6) (fs := zvs_X8) (C := RX8) (T := TX8) (N := 35) hx hb hts2 zin_X8 tyX8 tyX8_ok hown (hts2 _ zn_2) (hts2 _ zi_6) (hts2 _ zn_3) hK hPx hDx hS2 hA rfl zvs_X8_d (by decide) (by decide) zl_8 (fun qm H3 hP3 hD3 hS3 => ?_)
  obtain ⟨hPx3, hPm0⟩ := zL_splitP hP3
  obtain ⟨hDm0, hap0⟩ := zL_splitD hD3
  refine lv_dup hx hb zl_11 rfl ?_
  have hM2 := (zr_sound zr_tab_ok (zz_smB_ok l D zz_tab_ok) 9 _ _ _ _ _ zt_minit).2
  have hH3 : zr_H s [qm] [] zh_m0 [(qm, .inr (6, zvs_X8))] := ⟨rfl, rfl, fun k c hk => by
    match k, hk with
    | 0, hk => cases hk; exact ⟨qm, _, rfl, rfl, zvs_X8_ok _ _⟩
    | k + 1, hk => simp [zh_m0] at hk⟩
  have hF3 := zL_free hDm0 hS3 hA
  refine zL_callI (rest := [.ref qm]) hx hb hml hown hts2 hK hEx zy_init hM2 hH3 rfl hPm0 hDm0 hA hS3 hl.1 zl_12 (Nat.le_of_ble_eq_true rfl) ⟨by decide +kernel, by decide +kernel⟩ (fun o ho ρm ν3 wm rv2 H4 locs4 hρm hν3 hG3 hHm hVo2 hPm hDm hz2 hk2 hS4 => ?_)
  have ho := List.mem_singleton.mp ho
  subst ho
  have hrv := zL_none hVo2
  subst hrv
  have hHm : zr_H s ρm [] zh_m wm := zr_H.shut zL_shm hHm
  obtain ⟨fm, hwm⟩ := zL_first hHm (ci := 6) rfl hρm
  have hPx4 := zL_keep hPx3 hap0 hk2
  have hap : ∀ (i j : Nat) (x y : Nat × va_E), wx[i]? = some x → wm[j]? = some y → x.1 ≠ y.1 := by
    intro i j x y hxi hyj e
    have hlt := (hPx3 i x hxi).lt
    rcases hDm.2 j y hyj with ⟨k, e2, hk⟩ | hq
    · exact hap0 k i _ x hk hxi e.symm
    · omega
  have hDm4 : va_D (zL_A s) wm := hDm.weaken (fun k q _ h => hF3 q.1 h)
  refine W.widen (k := 54) (n := 270131) (by decide +kernel) (by decide +kernel) ?_
  show W p l e room_1 s m #[Value.ref b] below meth c H4 locs4 54 270131 (lw_Z below #[Value.ref b] s) (F0 m 15 ls [.ref qm])
  refine lv_astore_n (lv' := [(2, .ref qm), (1, .ref qx), (0, .ref b)]) hx hb zl_15 rfl hl (by decide) rfl (fun ls hl => ?_)
  refine lv_iconst (v := 0) hx hb zl_16 (by decide) ?_
  refine lv_istore_n (lv' := [(3, .int 0), (2, .ref qm), (1, .ref qx), (0, .ref b)]) hx hb zl_17 rfl hl (by decide) rfl (fun ls hl => ?_)
  refine lv_iload_n hx hb zl_18 rfl (lv_at hl 0 rfl) ?_
  refine lv_aload_n hx hb zl_19 rfl (lv_at hl 3 rfl) ?_
  refine va_slen hx hb hX hbl hbA hS4 zl_20 ?_
  refine lv_bipush (v := 6) hx hb zl_21 (by decide) ?_
  refine lv_isub hx hb zl_23 ?_
  refine lv_icmp_gt (tgt := 1814) hx hb zl_24 (by decide) (fun _ => zL_exit C0 hS4 (by decide) (by decide)) (fun hge => ?_)
  have hL6 : L = 6 := by
    rcases Nat.lt_or_ge L 6 with h | h
    · exact absurd (zL_less L h) hge
    · omega
  subst hL6
  refine lv_aload_n hx hb zl_27 rfl (lv_at hl 3 rfl) ?_
  refine lv_iload_n hx hb zl_28 rfl (lv_at hl 0 rfl) ?_
  refine va_sld hx hb hX hbl hbA hS4 (i := 0) (vp_in_nI (n := 0) (by decide) (by decide)) zl_29 ?_
  refine lv_bipush (v := 63) hx hb zl_30 (by decide) ?_
  refine lv_iand hx hb zl_32 ?_
  generalize xs ((0 : Int32).toNatClampNeg) = v
  obtain ⟨n, hn, hv⟩ := zL_mask v
  rw [hv]
  have key : ∀ pc : Nat, zL_goal pc → W p l e room_1 s m #[Value.ref b] below meth c H4 locs4 54 270131 (lw_Z below #[Value.ref b] s) (F0 m pc ls []) := fun pc h => h p l e s m below meth c b xs C0 D hK hEx ρx ρm wx wm qx qm fx fm H4 locs4 54 270131 ls hHx hwx hHm hwm hPx4 hDx hPm hDm4 hap hS4 (by decide) (by decide) hl
  by_cases h44 : n < 44
  · exact zL_switch hx hb h44 key
  · refine lv_tableOut (tgt := 1808) hx hb zl_33 (Or.inr (by rw [nI_toInt (by omega)]; omega)) (by decide) ?_
    exact zL_tail C0 hS4 (by decide) (by decide) hl
