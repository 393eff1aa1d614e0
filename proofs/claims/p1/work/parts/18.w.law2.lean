/-! THE LAW'S WALK -/
theorem zl_0 : decode code 0 = .ok (.new 7, 3) := by decide +kernel
theorem zl_3 : decode code 3 = .ok (.dup, 1) := by decide +kernel
theorem zl_4 : decode code 4 = .ok (.invokespecial 9, 3) := by decide +kernel
theorem zl_7 : decode code 7 = .ok (.astore_n 1, 1) := by decide +kernel
theorem zl_8 : decode code 8 = .ok (.new 10, 3) := by decide +kernel
theorem zl_11 : decode code 11 = .ok (.dup, 1) := by decide +kernel
theorem zl_12 : decode code 12 = .ok (.invokespecial 12, 3) := by decide +kernel
theorem zl_15 : decode code 15 = .ok (.astore_n 2, 1) := by decide +kernel
theorem zl_16 : decode code 16 = .ok (.iconst 0, 1) := by decide +kernel
theorem zl_17 : decode code 17 = .ok (.istore_n 3, 1) := by decide +kernel
theorem zl_18 : decode code 18 = .ok (.iload_n 3, 1) := by decide +kernel
theorem zl_19 : decode code 19 = .ok (.aload_n 0, 1) := by decide +kernel
theorem zl_20 : decode code 20 = .ok (.arraylength, 1) := by decide +kernel
theorem zl_21 : decode code 21 = .ok (.bipush 6, 2) := by decide +kernel
theorem zl_23 : decode code 23 = .ok (.isub, 1) := by decide +kernel
theorem zl_24 : decode code 24 = .ok (.if_icmp .gt 1790, 3) := by decide +kernel
theorem zl_27 : decode code 27 = .ok (.aload_n 0, 1) := by decide +kernel
theorem zl_28 : decode code 28 = .ok (.iload_n 3, 1) := by decide +kernel
theorem zl_29 : decode code 29 = .ok (.iaload, 1) := by decide +kernel
theorem zl_30 : decode code 30 = .ok (.bipush 63, 2) := by decide +kernel
theorem zl_32 : decode code 32 = .ok (.iand, 1) := by decide +kernel
theorem zl_1808 : decode code 1808 = .ok (.iinc 3 6, 3) := by decide +kernel
theorem zl_1811 : decode code 1811 = .ok (.goto (-1793), 3) := by decide +kernel
theorem zl_1814 : decode code 1814 = .ok (.iconst 1, 1) := by decide +kernel
theorem zl_1815 : decode code 1815 = .ok (.ireturn, 1) := by decide +kernel
section ZLA
variable {p : Program} {l : Launch} {e : Env} {s : State} {m : MethodId} {below : List Frame} {meth : Method} {c : Code} {b L : Nat} {xs : Nat → Int32} {H : Heap} {locs : List Loc} {nc ns : Nat}
theorem zL_exit (C0 : lw_At p s m meth c b L xs) (hS : va_S (zL_A s) s.heap H locs) (h1 : nc ≤ 600000) (h2 : ns ≤ 7302250) {ls : Array Slot} : W p l e room_1 s m #[Value.ref b] below meth c H locs nc ns (lw_Z below #[Value.ref b] s) (F0 m 1814 ls []) := by
  obtain ⟨hx, hb, hr, hml, hown, hts, hX, hbl, hlocks, hgv⟩ := C0
  refine lv_iconst (v := 1) hx hb zl_1814 (by decide) ?_
  refine va_forget (fun q hq => hS.2.2 q hq) ?_
  refine W.widen (k := 600000) (n := 7302250) h1 h2 ?_
  exact lw_ret hx hb hr hlocks zl_1815
theorem zL_tail (C0 : lw_At p s m meth c b 6 xs) (hS : va_S (zL_A s) s.heap H locs) (h1 : nc ≤ 600000) (h2 : ns ≤ 7302250) {qx qm : Nat} {ls : Array Slot} (hl : lv_has ls 4 [(3, .int 0), (2, .ref qm), (1, .ref qx), (0, .ref b)]) : W p l e room_1 s m #[Value.ref b] below meth c H locs nc ns (lw_Z below #[Value.ref b] s) (F0 m 1808 ls []) := by
  obtain ⟨hx, hb, hr, hml, hown, hts, hX, hbl, hlocks, hgv⟩ := id C0
  have hbA : ¬ zL_A s b := Nat.not_le.mpr hbl
  refine lv_iinc (k := 0) (v := 6) (lv' := [(3, .int 6), (2, .ref qm), (1, .ref qx), (0, .ref b)]) hx hb zl_1808 hl rfl (by decide) (by decide) rfl (fun ls hl => ?_)
  refine lv_goto (tgt := 18) hx hb zl_1811 (by decide) ?_
  refine lv_iload_n hx hb zl_18 rfl (lv_at hl 0 rfl) ?_
  refine lv_aload_n hx hb zl_19 rfl (lv_at hl 3 rfl) ?_
  refine va_slen hx hb hX hbl hbA hS zl_20 ?_
  refine lv_bipush (v := 6) hx hb zl_21 (by decide) ?_
  refine lv_isub hx hb zl_23 ?_
  refine lv_icmp_gt (tgt := 1814) hx hb zl_24 (by decide) (fun _ => zL_exit C0 hS h1 h2) (fun h => absurd (by decide) h)
end ZLA
abbrev zL_decI (pc n idx idx2 : Nat) (off : Int) : Prop := decode code pc = .ok (.aload_n 1, 1) ∧ (∀ j, j < n → zL_decP (pc + 1 + 5 * j) (j + 1)) ∧ decode code (pc + 1 + 5 * n) = .ok (.invokevirtual idx, 3) ∧ decode code (pc + 1 + 5 * n + 3) = .ok (.aload_n 2, 1) ∧ (∀ j, j < n → zL_decP (pc + 1 + 5 * n + 3 + 1 + 5 * j) (j + 1)) ∧ decode code (pc + 1 + 5 * n + 3 + 1 + 5 * n) = .ok (.invokevirtual idx2, 3) ∧ decode code (pc + 1 + 5 * n + 3 + 1 + 5 * n + 3) = .ok (.if_icmp .eq off, 3) ∧ ((pc + 1 + 5 * n + 3 + 1 + 5 * n + 3 : Nat) : Int) + off = ((1808 : Nat) : Int)
abbrev zL_decJ (pc n idx idx2 : Nat) (off : Int) : Prop := decode code pc = .ok (.aload_n 1, 1) ∧ (∀ j, j < n → zL_decP (pc + 1 + 5 * j) (j + 1)) ∧ decode code (pc + 1 + 5 * n) = .ok (.invokevirtual idx, 3) ∧ decode code (pc + 1 + 5 * n + 3) = .ok (.aload_n 2, 1) ∧ (∀ j, j < n → zL_decP (pc + 1 + 5 * n + 3 + 1 + 5 * j) (j + 1)) ∧ decode code (pc + 1 + 5 * n + 3 + 1 + 5 * n) = .ok (.invokevirtual idx2, 3) ∧ decode code (pc + 1 + 5 * n + 3 + 1 + 5 * n + 3) = .ok (.lcmp, 1) ∧ decode code (pc + 1 + 5 * n + 3 + 1 + 5 * n + 3 + 1) = .ok (.ifCond .eq off, 3) ∧ ((pc + 1 + 5 * n + 3 + 1 + 5 * n + 3 + 1 : Nat) : Int) + off = ((1808 : Nat) : Int)
/-- from a case of the law on it comes to its end with true -/
def zL_goal (pc : Nat) : Prop := ∀ (p : Program) (l : Launch) (e : Env) (s : State) (m : MethodId) (below : List Frame) (meth : Method) (c : Code) (b : Nat) (xs : Nat → Int32), lw_At p s m meth c b 6 xs → ∀ (D : va_G), va_K D zz_cl [] s → zr_Ex s → ∀ (ρx ρm : List Nat) (wx wm : va_W) (qx qm : Nat) (fx fm : List Value) (H : Heap) (locs : List Loc) (nc ns : Nat) (ls : Array Slot), zr_H s ρx [] zh_x wx → wx[0]? = some (qx, .inr (5, fx)) → zr_H s ρm [] zh_m wm → wm[0]? = some (qm, .inr (6, fm)) → va_P D zz_cl wx H → va_D (zL_A s) wx → va_P D zz_cl wm H → va_D (zL_A s) wm → (∀ (i j : Nat) (x y : Nat × va_E), wx[i]? = some x → wm[j]? = some y → x.1 ≠ y.1) → va_S (zL_A s) s.heap H locs → nc ≤ 100 → ns ≤ 300000 → lv_has ls 4 [(3, .int 0), (2, .ref qm), (1, .ref qx), (0, .ref b)] → W p l e room_1 s m #[Value.ref b] below meth c H locs nc ns (lw_Z below #[Value.ref b] s) (F0 m pc ls [])
theorem zL_cat (v : Value) : v.category ≤ 2 := by cases v <;> exact Nat.le_of_ble_eq_true rfl
theorem zL_cats (rv : Option Value) : ((rv.toList ++ ([] : List Value)).map fun v => v.category).sum ≤ 8 := by
  match rv with
  | none => exact Nat.zero_le _
  | some v =>
    have := zL_cat v
    show v.category + 0 ≤ 8
    omega
theorem zL_caseI {pc n idx idx2 : Nat} {off : Int} {xi yi : Nat} {gs : List zz_G} (hn : n ≤ 5) (hd : zL_decI pc n idx idx2 off) (hxm : zL_meth xi n 5 idx) (hym : zL_meth yi n 6 idx2) (hall : ∀ g ∈ gs, zz_both zz_sameI (zz_smB zz_tab) xi yi (zL_as n) zh_x zh_m g = true) (hcov : ∀ xs : Nat → Int32, ∃ g ∈ gs, zr_G g (zL_nu xs n)) : zL_goal pc := by
  intro p l e s m below meth c b xs C0 D hK hEx ρx ρm wx wm qx qm fx fm H locs nc ns ls hHx hwx hHm hwm hPx hDx hPm hDm hap hS hnc hns hl
  obtain ⟨hx, hb, hr, hml, hown, hts, hX, hbl, hlocks, hgv⟩ := id C0
  have hts2 : ∀ w ∈ zg_tbl, w.before #[Value.ref b] s = true := fun w hw => hts w (List.mem_filter.mp hw).1
  have hbA : ¬ zL_A s b := Nat.not_le.mpr hbl
  have hA : ∀ q : Nat, s.heap.size ≤ q → zL_A s q := fun _ h => h
  obtain ⟨d1, dp1, dv1, d2, dp2, dv2, dend, ht⟩ := hd
  obtain ⟨g, hg, hG⟩ := hcov xs
  obtain ⟨outs, hev, hfew, hboth⟩ := zL_both (hall g hg)
  have hM := (zr_sound zr_tab_ok (zz_smB_ok l D zz_tab_ok) 9 _ _ _ _ _ hev).2
  refine lv_aload_n hx hb d1 rfl (lv_at hl 2 rfl) ?_
  refine zL_pushN hx hb hX hbl hbA hS (lv_at hl 3 rfl) (lv_at hl 0 rfl) n hn dp1 ?_
  refine zL_callV (rest := []) hx hb hml hown hts2 hK hEx hxm hM (hHx.nu (List.nil_prefix)) hwx (zL_Vs hn) hG hPx hDx hA hS zL_len hl.1 dv1 (Nat.zero_le _) ⟨by omega, by omega⟩ (fun o ho ρ2 ν2 w2 rv H2 locs2 hρ hν hG2 hH2 hVo hP2 hD2 hz hk hS2 => ?_)
  obtain ⟨outs2, hev2, hfew2, hsame⟩ := hboth o ho
  have hM2 := (zr_sound zr_tab_ok (zz_smB_ok l D zz_tab_ok) 9 _ _ _ _ _ hev2).2
  have hPm2 := zL_keep hPm hap hk
  refine lv_aload_n hx hb d2 rfl (lv_at hl 1 rfl) ?_
  refine zL_pushN hx hb hX hbl hbA hS2 (lv_at hl 3 rfl) (lv_at hl 0 rfl) n hn dp2 ?_
  refine zL_callV (rest := rv.toList ++ []) hx hb hml hown hts2 hK hEx hym hM2 (hHm.nu (List.nil_prefix)) hwm ((zL_Vs hn).mono (List.prefix_refl _) hν) hG2 hPm2 hDm hA hS2 zL_len hl.1 dv2 (zL_cats rv) ⟨by omega, by omega⟩ (fun o2 ho2 ρ3 ν3 w3 rv3 H3 locs3 hρ3 hν3 hG3 hH3 hVo3 hP3 hD3 hz3 hk3 hS3 => ?_)
  obtain ⟨i, rfl, rfl⟩ := zL_sameI hG3 hν3 (hsame o2 ho2) hVo hVo3
  refine lv_icmp_eq (tgt := 1808) (rest := []) (x := i) (y := i) hx hb dend ht (fun _ => ?_) (fun h => absurd rfl h)
  exact zL_tail C0 hS3 (by omega) (by omega) hl
theorem zL_cmp (i : Int64) : lg_cmp i i = 0 := by
  unfold lg_cmp
  rw [if_neg (Int64.lt_irrefl), if_pos rfl]
theorem zL_caseJ {pc n idx idx2 : Nat} {off : Int} {xi yi : Nat} {gs : List zz_G} (hn : n ≤ 5) (hd : zL_decJ pc n idx idx2 off) (hxm : zL_meth xi n 5 idx) (hym : zL_meth yi n 6 idx2) (hall : ∀ g ∈ gs, zz_both zz_sameJ (zz_smB zz_tab) xi yi (zL_as n) zh_x zh_m g = true) (hcov : ∀ xs : Nat → Int32, ∃ g ∈ gs, zr_G g (zL_nu xs n)) : zL_goal pc := by
  intro p l e s m below meth c b xs C0 D hK hEx ρx ρm wx wm qx qm fx fm H locs nc ns ls hHx hwx hHm hwm hPx hDx hPm hDm hap hS hnc hns hl
  obtain ⟨hx, hb, hr, hml, hown, hts, hX, hbl, hlocks, hgv⟩ := id C0
  have hts2 : ∀ w ∈ zg_tbl, w.before #[Value.ref b] s = true := fun w hw => hts w (List.mem_filter.mp hw).1
  have hbA : ¬ zL_A s b := Nat.not_le.mpr hbl
  have hA : ∀ q : Nat, s.heap.size ≤ q → zL_A s q := fun _ h => h
  obtain ⟨d1, dp1, dv1, d2, dp2, dv2, dend, dend2, ht⟩ := hd
  obtain ⟨g, hg, hG⟩ := hcov xs
  obtain ⟨outs, hev, hfew, hboth⟩ := zL_both (hall g hg)
  have hM := (zr_sound zr_tab_ok (zz_smB_ok l D zz_tab_ok) 9 _ _ _ _ _ hev).2
  refine lv_aload_n hx hb d1 rfl (lv_at hl 2 rfl) ?_
  refine zL_pushN hx hb hX hbl hbA hS (lv_at hl 3 rfl) (lv_at hl 0 rfl) n hn dp1 ?_
  refine zL_callV (rest := []) hx hb hml hown hts2 hK hEx hxm hM (hHx.nu (List.nil_prefix)) hwx (zL_Vs hn) hG hPx hDx hA hS zL_len hl.1 dv1 (Nat.zero_le _) ⟨by omega, by omega⟩ (fun o ho ρ2 ν2 w2 rv H2 locs2 hρ hν hG2 hH2 hVo hP2 hD2 hz hk hS2 => ?_)
  obtain ⟨outs2, hev2, hfew2, hsame⟩ := hboth o ho
  have hM2 := (zr_sound zr_tab_ok (zz_smB_ok l D zz_tab_ok) 9 _ _ _ _ _ hev2).2
  have hPm2 := zL_keep hPm hap hk
  refine lv_aload_n hx hb d2 rfl (lv_at hl 1 rfl) ?_
  refine zL_pushN hx hb hX hbl hbA hS2 (lv_at hl 3 rfl) (lv_at hl 0 rfl) n hn dp2 ?_
  refine zL_callV (rest := rv.toList ++ []) hx hb hml hown hts2 hK hEx hym hM2 (hHm.nu (List.nil_prefix)) hwm ((zL_Vs hn).mono (List.prefix_refl _) hν) hG2 hPm2 hDm hA hS2 zL_len hl.1 dv2 (zL_cats rv) ⟨by omega, by omega⟩ (fun o2 ho2 ρ3 ν3 w3 rv3 H3 locs3 hρ3 hν3 hG3 hH3 hVo3 hP3 hD3 hz3 hk3 hS3 => ?_)
  obtain ⟨i, rfl, rfl⟩ := zL_sameJ (hsame o2 ho2) hVo hVo3
  refine W.lcmp (x := i) (y := i) (rest := []) hx hb dend ?_
  rw [zL_cmp]
  refine lv_if_eq (tgt := 1808) (rest := []) hx hb dend2 ht (fun _ => ?_) (fun h => absurd rfl h)
  exact zL_tail C0 hS3 (by omega) (by omega) hl
/-! THE UNKNOWNS' RANGES -/
theorem zG_nil : zr_G [] [] := ⟨rfl, fun k lo hi tag h => by simp at h⟩
theorem zG_cons {lo hi tag : Nat} {g : zz_G} {i : Int32} {ν : List Int32} (h1 : lo ≤ zr_b i) (h2 : zr_b i ≤ hi) (h3 : tag = 1 → zr_bad i) (h : zr_G g ν) : zr_G ((lo, hi, tag) :: g) (i :: ν) := by
  refine ⟨by simp [h.1], fun k lo2 hi2 tag2 hk => ?_⟩
  match k, hk with
  | 0, hk => cases hk; exact ⟨i, rfl, h1, h2, h3⟩
  | k + 1, hk => exact h.2 k lo2 hi2 tag2 hk
theorem zG_free {g : zz_G} {i : Int32} {ν : List Int32} (h : zr_G g ν) : zr_G ((0, 4294967295, 0) :: g) (i :: ν) := zG_cons (Nat.zero_le _) (by have := zl_b_lt i; omega) (fun h => nomatch h) h
theorem zG_full0 (xs : Nat → Int32) : zr_G [] (zL_nu xs 0) := zG_nil
theorem zG_full1 (xs : Nat → Int32) : zr_G [(0, 4294967295, 0)] (zL_nu xs 1) := zG_free zG_nil
theorem zG_full2 (xs : Nat → Int32) : zr_G [(0, 4294967295, 0), (0, 4294967295, 0)] (zL_nu xs 2) := zG_free (zG_free zG_nil)
theorem zG_full3 (xs : Nat → Int32) : zr_G [(0, 4294967295, 0), (0, 4294967295, 0), (0, 4294967295, 0)] (zL_nu xs 3) := zG_free (zG_free (zG_free zG_nil))
theorem zG_full4 (xs : Nat → Int32) : zr_G [(0, 4294967295, 0), (0, 4294967295, 0), (0, 4294967295, 0), (0, 4294967295, 0)] (zL_nu xs 4) := zG_free (zG_free (zG_free (zG_free zG_nil)))
theorem zG_full5 (xs : Nat → Int32) : zr_G [(0, 4294967295, 0), (0, 4294967295, 0), (0, 4294967295, 0), (0, 4294967295, 0), (0, 4294967295, 0)] (zL_nu xs 5) := zG_free (zG_free (zG_free (zG_free (zG_free zG_nil))))
theorem zG_one {o : Nat} {i : Int32} (h : i = nI o) (ho : o < 2147483648) {g : zz_G} {ν : List Int32} (hg : zr_G g ν) : zr_G ((o + 2147483648, o + 2147483648, 0) :: g) (i :: ν) := by
  have e : zr_b i = o + 2147483648 := by rw [h, zl_b, zs_b ho]
  exact zG_cons (by omega) (by omega) (fun h => nomatch h) hg
theorem zG_neg {i : Int32} (h : i.toInt < 0) {g : zz_G} {ν : List Int32} (hg : zr_G g ν) : zr_G ((0, 2147483647, 0) :: g) (i :: ν) := by
  have := zl_b_int i
  exact zG_cons (by omega) (by omega) (fun h => nomatch h) hg
def zgs_element : List zz_G := [[(0, 4294967295, 0), (0, 2147483647, 0)], [(0, 4294967295, 0), (2147483648, 2147483648, 0)], [(0, 4294967295, 0), (2147483649, 2147483649, 0)], [(0, 4294967295, 0), (2147483659, 2147483659, 0)], [(0, 4294967295, 0), (2147483759, 2147483759, 0)], [(0, 4294967295, 0), (2147484759, 2147484759, 0)], [(0, 4294967295, 0), (2147494759, 2147494759, 0)], [(0, 4294967295, 0), (2147594759, 2147594759, 0)], [(0, 4294967295, 0), (2148594759, 2148594759, 0)], [(0, 4294967295, 0), (2158594759, 2158594759, 0)], [(0, 4294967295, 0), (2258594759, 2258594759, 0)], [(0, 4294967295, 0), (3258594759, 3258594759, 0)], [(0, 4294967295, 0), (2147483648, 4294967295, 1)]]
def zgs_order : List zz_G := [[(0, 4294967295, 0), (0, 2147483647, 0), (0, 4294967295, 0)], [(0, 4294967295, 0), (2147483648, 2147483648, 0), (0, 4294967295, 0)], [(0, 4294967295, 0), (2147483649, 2147483649, 0), (0, 4294967295, 0)], [(0, 4294967295, 0), (2147483650, 2147483650, 0), (0, 4294967295, 0)], [(0, 4294967295, 0), (2147483651, 2147483651, 0), (0, 4294967295, 0)], [(0, 4294967295, 0), (2147483652, 2147483652, 0), (0, 4294967295, 0)], [(0, 4294967295, 0), (2147483653, 2147483653, 0), (0, 4294967295, 0)], [(0, 4294967295, 0), (2147483654, 2147483654, 0), (0, 4294967295, 0)], [(0, 4294967295, 0), (2147483655, 2147483655, 0), (0, 4294967295, 0)], [(0, 4294967295, 0), (2147483656, 2147483656, 0), (0, 4294967295, 0)], [(0, 4294967295, 0), (2147483657, 2147483657, 0), (0, 4294967295, 0)], [(0, 4294967295, 0), (2147483658, 4294967295, 0), (0, 4294967295, 0)]]
def zgs_corners : List zz_G := [[(0, 2147483647, 0), (0, 4294967295, 0), (0, 4294967295, 0)], [(2147483648, 2147483648, 0), (0, 4294967295, 0), (0, 4294967295, 0)], [(2147483649, 2147483649, 0), (0, 4294967295, 0), (0, 4294967295, 0)], [(2147483650, 2147483650, 0), (0, 4294967295, 0), (0, 4294967295, 0)], [(2147483651, 2147483651, 0), (0, 4294967295, 0), (0, 4294967295, 0)], [(2147483652, 4294967295, 0), (0, 4294967295, 0), (0, 4294967295, 0)]]
def zgs_cornerOf : List zz_G := [[(0, 2147483647, 0), (0, 4294967295, 0), (0, 4294967295, 0), (0, 2147483647, 0)], [(0, 2147483647, 0), (0, 4294967295, 0), (0, 4294967295, 0), (2147483648, 2147483648, 0)], [(0, 2147483647, 0), (0, 4294967295, 0), (0, 4294967295, 0), (2147483649, 2147483649, 0)], [(0, 2147483647, 0), (0, 4294967295, 0), (0, 4294967295, 0), (2147483650, 4294967295, 0)], [(2147483648, 2147483648, 0), (0, 4294967295, 0), (0, 4294967295, 0), (0, 2147483647, 0)], [(2147483648, 2147483648, 0), (0, 4294967295, 0), (0, 4294967295, 0), (2147483648, 2147483648, 0)], [(2147483648, 2147483648, 0), (0, 4294967295, 0), (0, 4294967295, 0), (2147483649, 2147483649, 0)], [(2147483648, 2147483648, 0), (0, 4294967295, 0), (0, 4294967295, 0), (2147483650, 4294967295, 0)], [(2147483649, 2147483649, 0), (0, 4294967295, 0), (0, 4294967295, 0), (0, 2147483647, 0)], [(2147483649, 2147483649, 0), (0, 4294967295, 0), (0, 4294967295, 0), (2147483648, 2147483648, 0)], [(2147483649, 2147483649, 0), (0, 4294967295, 0), (0, 4294967295, 0), (2147483649, 2147483649, 0)], [(2147483649, 2147483649, 0), (0, 4294967295, 0), (0, 4294967295, 0), (2147483650, 4294967295, 0)], [(2147483650, 2147483650, 0), (0, 4294967295, 0), (0, 4294967295, 0), (0, 2147483647, 0)], [(2147483650, 2147483650, 0), (0, 4294967295, 0), (0, 4294967295, 0), (2147483648, 2147483648, 0)], [(2147483650, 2147483650, 0), (0, 4294967295, 0), (0, 4294967295, 0), (2147483649, 2147483649, 0)], [(2147483650, 2147483650, 0), (0, 4294967295, 0), (0, 4294967295, 0), (2147483650, 4294967295, 0)], [(2147483651, 2147483651, 0), (0, 4294967295, 0), (0, 4294967295, 0), (0, 2147483647, 0)], [(2147483651, 2147483651, 0), (0, 4294967295, 0), (0, 4294967295, 0), (2147483648, 2147483648, 0)], [(2147483651, 2147483651, 0), (0, 4294967295, 0), (0, 4294967295, 0), (2147483649, 2147483649, 0)], [(2147483651, 2147483651, 0), (0, 4294967295, 0), (0, 4294967295, 0), (2147483650, 4294967295, 0)], [(2147483652, 4294967295, 0), (0, 4294967295, 0), (0, 4294967295, 0), (0, 2147483647, 0)], [(2147483652, 4294967295, 0), (0, 4294967295, 0), (0, 4294967295, 0), (2147483648, 2147483648, 0)], [(2147483652, 4294967295, 0), (0, 4294967295, 0), (0, 4294967295, 0), (2147483649, 2147483649, 0)], [(2147483652, 4294967295, 0), (0, 4294967295, 0), (0, 4294967295, 0), (2147483650, 4294967295, 0)]]
def zgs_liesIn : List zz_G := [[(0, 2147483647, 0), (0, 4294967295, 0), (0, 4294967295, 0), (0, 4294967295, 0), (0, 4294967295, 0)], [(2147483648, 2147483648, 0), (0, 4294967295, 0), (0, 4294967295, 0), (0, 4294967295, 0), (0, 4294967295, 0)], [(2147483649, 2147483649, 0), (0, 4294967295, 0), (0, 4294967295, 0), (0, 4294967295, 0), (0, 4294967295, 0)], [(2147483650, 2147483650, 0), (0, 4294967295, 0), (0, 4294967295, 0), (0, 4294967295, 0), (0, 4294967295, 0)], [(2147483651, 2147483651, 0), (0, 4294967295, 0), (0, 4294967295, 0), (0, 4294967295, 0), (0, 4294967295, 0)], [(2147483652, 4294967295, 0), (0, 4294967295, 0), (0, 4294967295, 0), (0, 4294967295, 0), (0, 4294967295, 0)]]
def zgs_within : List zz_G := [[(0, 2147483647, 0), (0, 4294967295, 0), (0, 4294967295, 0), (0, 4294967295, 0)], [(2147483648, 2147483648, 0), (0, 4294967295, 0), (0, 4294967295, 0), (0, 4294967295, 0)], [(2147483649, 2147483649, 0), (0, 4294967295, 0), (0, 4294967295, 0), (0, 4294967295, 0)], [(2147483650, 2147483650, 0), (0, 4294967295, 0), (0, 4294967295, 0), (0, 4294967295, 0)], [(2147483651, 2147483651, 0), (0, 4294967295, 0), (0, 4294967295, 0), (0, 4294967295, 0)], [(2147483652, 4294967295, 0), (0, 4294967295, 0), (0, 4294967295, 0), (0, 4294967295, 0)]]
def zgs_ways : List zz_G := [[(0, 4294967295, 0), (0, 4294967295, 0), (0, 4294967295, 0), (0, 2147483647, 0)], [(0, 4294967295, 0), (0, 4294967295, 0), (0, 4294967295, 0), (2147483648, 2147483648, 0)], [(0, 4294967295, 0), (0, 4294967295, 0), (0, 4294967295, 0), (2147483649, 2147483649, 0)], [(0, 4294967295, 0), (0, 4294967295, 0), (0, 4294967295, 0), (2147483650, 2147483650, 0)], [(0, 4294967295, 0), (0, 4294967295, 0), (0, 4294967295, 0), (2147483651, 2147483651, 0)], [(0, 4294967295, 0), (0, 4294967295, 0), (0, 4294967295, 0), (2147483652, 2147483652, 0)], [(0, 4294967295, 0), (0, 4294967295, 0), (0, 4294967295, 0), (2147483653, 2147483653, 0)], [(0, 4294967295, 0), (0, 4294967295, 0), (0, 4294967295, 0), (2147483654, 2147483654, 0)], [(0, 4294967295, 0), (0, 4294967295, 0), (0, 4294967295, 0), (2147483655, 2147483655, 0)], [(0, 4294967295, 0), (0, 4294967295, 0), (0, 4294967295, 0), (2147483656, 2147483656, 0)], [(0, 4294967295, 0), (0, 4294967295, 0), (0, 4294967295, 0), (2147483657, 2147483657, 0)], [(0, 4294967295, 0), (0, 4294967295, 0), (0, 4294967295, 0), (2147483658, 2147483658, 0)], [(0, 4294967295, 0), (0, 4294967295, 0), (0, 4294967295, 0), (2147483659, 2147483659, 0)], [(0, 4294967295, 0), (0, 4294967295, 0), (0, 4294967295, 0), (2147483660, 2147483660, 0)], [(0, 4294967295, 0), (0, 4294967295, 0), (0, 4294967295, 0), (2147483661, 4294967295, 0)]]
theorem zG_element (xs : Nat → Int32) : ∃ g ∈ zgs_element, zr_G g (zL_nu xs 2) := by
  show ∃ g ∈ zgs_element, zr_G g [xs 1, xs 2]
  generalize xs 1 = u
  generalize xs 2 = w
  have hb := zl_b_int w
  have hlt := zl_b_lt w
  by_cases hneg : w.toInt < 0
  · exact ⟨_, List.mem_of_getElem? (i := 0) rfl, zG_free (zG_neg hneg zG_nil)⟩
  by_cases h0 : w = 0
  · exact ⟨_, List.mem_of_getElem? (i := 1) rfl, zG_free (zG_one (o := 0) (h0.trans (by decide)) (by decide) zG_nil)⟩
  by_cases h1 : w = 1
  · exact ⟨_, List.mem_of_getElem? (i := 2) rfl, zG_free (zG_one (o := 1) (h1.trans (by decide)) (by decide) zG_nil)⟩
  by_cases h2 : w = 11
  · exact ⟨_, List.mem_of_getElem? (i := 3) rfl, zG_free (zG_one (o := 11) (h2.trans (by decide)) (by decide) zG_nil)⟩
  by_cases h3 : w = 111
  · exact ⟨_, List.mem_of_getElem? (i := 4) rfl, zG_free (zG_one (o := 111) (h3.trans (by decide)) (by decide) zG_nil)⟩
  by_cases h4 : w = 1111
  · exact ⟨_, List.mem_of_getElem? (i := 5) rfl, zG_free (zG_one (o := 1111) (h4.trans (by decide)) (by decide) zG_nil)⟩
  by_cases h5 : w = 11111
  · exact ⟨_, List.mem_of_getElem? (i := 6) rfl, zG_free (zG_one (o := 11111) (h5.trans (by decide)) (by decide) zG_nil)⟩
  by_cases h6 : w = 111111
  · exact ⟨_, List.mem_of_getElem? (i := 7) rfl, zG_free (zG_one (o := 111111) (h6.trans (by decide)) (by decide) zG_nil)⟩
  by_cases h7 : w = 1111111
  · exact ⟨_, List.mem_of_getElem? (i := 8) rfl, zG_free (zG_one (o := 1111111) (h7.trans (by decide)) (by decide) zG_nil)⟩
  by_cases h8 : w = 11111111
  · exact ⟨_, List.mem_of_getElem? (i := 9) rfl, zG_free (zG_one (o := 11111111) (h8.trans (by decide)) (by decide) zG_nil)⟩
  by_cases h9 : w = 111111111
  · exact ⟨_, List.mem_of_getElem? (i := 10) rfl, zG_free (zG_one (o := 111111111) (h9.trans (by decide)) (by decide) zG_nil)⟩
  by_cases h10 : w = 1111111111
  · exact ⟨_, List.mem_of_getElem? (i := 11) rfl, zG_free (zG_one (o := 1111111111) (h10.trans (by decide)) (by decide) zG_nil)⟩
  exact ⟨_, List.mem_of_getElem? (i := 12) rfl, zG_free (zG_cons (by omega) (by omega) (fun _ => ⟨by omega, h0, h1, h2, h3, h4, h5, h6, h7, h8, h9, h10⟩) zG_nil)⟩
theorem zG_ne {o : Nat} {i v : Int32} (h : i ≠ v) (hv : v = nI o) (ho : o < 2147483648) : zr_b i ≠ o + 2147483648 := fun q => h (by
  apply zl_b_inj
  rw [q, hv, zl_b, zs_b ho])
theorem zG_order (xs : Nat → Int32) : ∃ g ∈ zgs_order, zr_G g (zL_nu xs 3) := by
  show ∃ g ∈ zgs_order, zr_G g [xs 1, xs 2, xs 3]
  generalize xs 1 = u0
  generalize xs 2 = u1
  generalize xs 3 = u2
  have hb1 := zl_b_int u1
  have hlt1 := zl_b_lt u1
  by_cases hn1 : u1.toInt < 0
  · exact ⟨_, List.mem_of_getElem? (i := 0) rfl, (zG_free (zG_neg hn1 (zG_free zG_nil)))⟩
  by_cases h1_0 : u1 = 0
  · exact ⟨_, List.mem_of_getElem? (i := 1) rfl, (zG_free (zG_one (o := 0) (h1_0.trans (by decide)) (by decide) (zG_free zG_nil)))⟩
  by_cases h1_1 : u1 = 1
  · exact ⟨_, List.mem_of_getElem? (i := 2) rfl, (zG_free (zG_one (o := 1) (h1_1.trans (by decide)) (by decide) (zG_free zG_nil)))⟩
  by_cases h1_2 : u1 = 2
  · exact ⟨_, List.mem_of_getElem? (i := 3) rfl, (zG_free (zG_one (o := 2) (h1_2.trans (by decide)) (by decide) (zG_free zG_nil)))⟩
  by_cases h1_3 : u1 = 3
  · exact ⟨_, List.mem_of_getElem? (i := 4) rfl, (zG_free (zG_one (o := 3) (h1_3.trans (by decide)) (by decide) (zG_free zG_nil)))⟩
  by_cases h1_4 : u1 = 4
  · exact ⟨_, List.mem_of_getElem? (i := 5) rfl, (zG_free (zG_one (o := 4) (h1_4.trans (by decide)) (by decide) (zG_free zG_nil)))⟩
  by_cases h1_5 : u1 = 5
  · exact ⟨_, List.mem_of_getElem? (i := 6) rfl, (zG_free (zG_one (o := 5) (h1_5.trans (by decide)) (by decide) (zG_free zG_nil)))⟩
  by_cases h1_6 : u1 = 6
  · exact ⟨_, List.mem_of_getElem? (i := 7) rfl, (zG_free (zG_one (o := 6) (h1_6.trans (by decide)) (by decide) (zG_free zG_nil)))⟩
  by_cases h1_7 : u1 = 7
  · exact ⟨_, List.mem_of_getElem? (i := 8) rfl, (zG_free (zG_one (o := 7) (h1_7.trans (by decide)) (by decide) (zG_free zG_nil)))⟩
  by_cases h1_8 : u1 = 8
  · exact ⟨_, List.mem_of_getElem? (i := 9) rfl, (zG_free (zG_one (o := 8) (h1_8.trans (by decide)) (by decide) (zG_free zG_nil)))⟩
  by_cases h1_9 : u1 = 9
  · exact ⟨_, List.mem_of_getElem? (i := 10) rfl, (zG_free (zG_one (o := 9) (h1_9.trans (by decide)) (by decide) (zG_free zG_nil)))⟩
  have k1_0 := zG_ne (o := 0) h1_0 (by decide) (by decide)
  have k1_1 := zG_ne (o := 1) h1_1 (by decide) (by decide)
  have k1_2 := zG_ne (o := 2) h1_2 (by decide) (by decide)
  have k1_3 := zG_ne (o := 3) h1_3 (by decide) (by decide)
  have k1_4 := zG_ne (o := 4) h1_4 (by decide) (by decide)
  have k1_5 := zG_ne (o := 5) h1_5 (by decide) (by decide)
  have k1_6 := zG_ne (o := 6) h1_6 (by decide) (by decide)
  have k1_7 := zG_ne (o := 7) h1_7 (by decide) (by decide)
  have k1_8 := zG_ne (o := 8) h1_8 (by decide) (by decide)
  have k1_9 := zG_ne (o := 9) h1_9 (by decide) (by decide)
  exact ⟨_, List.mem_of_getElem? (i := 11) rfl, (zG_free (zG_cons (by omega) (by omega) (fun h => nomatch h) (zG_free zG_nil)))⟩
theorem zG_corners (xs : Nat → Int32) : ∃ g ∈ zgs_corners, zr_G g (zL_nu xs 3) := by
  show ∃ g ∈ zgs_corners, zr_G g [xs 1, xs 2, xs 3]
  generalize xs 1 = u0
  generalize xs 2 = u1
  generalize xs 3 = u2
  have hb0 := zl_b_int u0
  have hlt0 := zl_b_lt u0
  by_cases hn0 : u0.toInt < 0
  · exact ⟨_, List.mem_of_getElem? (i := 0) rfl, (zG_neg hn0 (zG_free (zG_free zG_nil)))⟩
  by_cases h0_0 : u0 = 0
  · exact ⟨_, List.mem_of_getElem? (i := 1) rfl, (zG_one (o := 0) (h0_0.trans (by decide)) (by decide) (zG_free (zG_free zG_nil)))⟩
  by_cases h0_1 : u0 = 1
  · exact ⟨_, List.mem_of_getElem? (i := 2) rfl, (zG_one (o := 1) (h0_1.trans (by decide)) (by decide) (zG_free (zG_free zG_nil)))⟩
  by_cases h0_2 : u0 = 2
  · exact ⟨_, List.mem_of_getElem? (i := 3) rfl, (zG_one (o := 2) (h0_2.trans (by decide)) (by decide) (zG_free (zG_free zG_nil)))⟩
  by_cases h0_3 : u0 = 3
  · exact ⟨_, List.mem_of_getElem? (i := 4) rfl, (zG_one (o := 3) (h0_3.trans (by decide)) (by decide) (zG_free (zG_free zG_nil)))⟩
  have k0_0 := zG_ne (o := 0) h0_0 (by decide) (by decide)
  have k0_1 := zG_ne (o := 1) h0_1 (by decide) (by decide)
  have k0_2 := zG_ne (o := 2) h0_2 (by decide) (by decide)
  have k0_3 := zG_ne (o := 3) h0_3 (by decide) (by decide)
  exact ⟨_, List.mem_of_getElem? (i := 5) rfl, (zG_cons (by omega) (by omega) (fun h => nomatch h) (zG_free (zG_free zG_nil)))⟩
theorem zG_cornerOf (xs : Nat → Int32) : ∃ g ∈ zgs_cornerOf, zr_G g (zL_nu xs 4) := by
  show ∃ g ∈ zgs_cornerOf, zr_G g [xs 1, xs 2, xs 3, xs 4]
  generalize xs 1 = u0
  generalize xs 2 = u1
  generalize xs 3 = u2
  generalize xs 4 = u3
  have hb0 := zl_b_int u0
  have hlt0 := zl_b_lt u0
  have hb3 := zl_b_int u3
  have hlt3 := zl_b_lt u3
  by_cases hn0 : u0.toInt < 0
  · by_cases hn3 : u3.toInt < 0
    · exact ⟨_, List.mem_of_getElem? (i := 0) rfl, (zG_neg hn0 (zG_free (zG_free (zG_neg hn3 zG_nil))))⟩
    by_cases h3_0 : u3 = 0
    · exact ⟨_, List.mem_of_getElem? (i := 1) rfl, (zG_neg hn0 (zG_free (zG_free (zG_one (o := 0) (h3_0.trans (by decide)) (by decide) zG_nil))))⟩
    by_cases h3_1 : u3 = 1
    · exact ⟨_, List.mem_of_getElem? (i := 2) rfl, (zG_neg hn0 (zG_free (zG_free (zG_one (o := 1) (h3_1.trans (by decide)) (by decide) zG_nil))))⟩
    have k3_0 := zG_ne (o := 0) h3_0 (by decide) (by decide)
    have k3_1 := zG_ne (o := 1) h3_1 (by decide) (by decide)
    exact ⟨_, List.mem_of_getElem? (i := 3) rfl, (zG_neg hn0 (zG_free (zG_free (zG_cons (by omega) (by omega) (fun h => nomatch h) zG_nil))))⟩
  by_cases h0_0 : u0 = 0
  · by_cases hn3 : u3.toInt < 0
    · exact ⟨_, List.mem_of_getElem? (i := 4) rfl, (zG_one (o := 0) (h0_0.trans (by decide)) (by decide) (zG_free (zG_free (zG_neg hn3 zG_nil))))⟩
    by_cases h3_0 : u3 = 0
    · exact ⟨_, List.mem_of_getElem? (i := 5) rfl, (zG_one (o := 0) (h0_0.trans (by decide)) (by decide) (zG_free (zG_free (zG_one (o := 0) (h3_0.trans (by decide)) (by decide) zG_nil))))⟩
    by_cases h3_1 : u3 = 1
    · exact ⟨_, List.mem_of_getElem? (i := 6) rfl, (zG_one (o := 0) (h0_0.trans (by decide)) (by decide) (zG_free (zG_free (zG_one (o := 1) (h3_1.trans (by decide)) (by decide) zG_nil))))⟩
    have k3_0 := zG_ne (o := 0) h3_0 (by decide) (by decide)
    have k3_1 := zG_ne (o := 1) h3_1 (by decide) (by decide)
    exact ⟨_, List.mem_of_getElem? (i := 7) rfl, (zG_one (o := 0) (h0_0.trans (by decide)) (by decide) (zG_free (zG_free (zG_cons (by omega) (by omega) (fun h => nomatch h) zG_nil))))⟩
  by_cases h0_1 : u0 = 1
  · by_cases hn3 : u3.toInt < 0
    · exact ⟨_, List.mem_of_getElem? (i := 8) rfl, (zG_one (o := 1) (h0_1.trans (by decide)) (by decide) (zG_free (zG_free (zG_neg hn3 zG_nil))))⟩
    by_cases h3_0 : u3 = 0
    · exact ⟨_, List.mem_of_getElem? (i := 9) rfl, (zG_one (o := 1) (h0_1.trans (by decide)) (by decide) (zG_free (zG_free (zG_one (o := 0) (h3_0.trans (by decide)) (by decide) zG_nil))))⟩
    by_cases h3_1 : u3 = 1
    · exact ⟨_, List.mem_of_getElem? (i := 10) rfl, (zG_one (o := 1) (h0_1.trans (by decide)) (by decide) (zG_free (zG_free (zG_one (o := 1) (h3_1.trans (by decide)) (by decide) zG_nil))))⟩
    have k3_0 := zG_ne (o := 0) h3_0 (by decide) (by decide)
    have k3_1 := zG_ne (o := 1) h3_1 (by decide) (by decide)
    exact ⟨_, List.mem_of_getElem? (i := 11) rfl, (zG_one (o := 1) (h0_1.trans (by decide)) (by decide) (zG_free (zG_free (zG_cons (by omega) (by omega) (fun h => nomatch h) zG_nil))))⟩
  by_cases h0_2 : u0 = 2
  · by_cases hn3 : u3.toInt < 0
    · exact ⟨_, List.mem_of_getElem? (i := 12) rfl, (zG_one (o := 2) (h0_2.trans (by decide)) (by decide) (zG_free (zG_free (zG_neg hn3 zG_nil))))⟩
    by_cases h3_0 : u3 = 0
    · exact ⟨_, List.mem_of_getElem? (i := 13) rfl, (zG_one (o := 2) (h0_2.trans (by decide)) (by decide) (zG_free (zG_free (zG_one (o := 0) (h3_0.trans (by decide)) (by decide) zG_nil))))⟩
    by_cases h3_1 : u3 = 1
    · exact ⟨_, List.mem_of_getElem? (i := 14) rfl, (zG_one (o := 2) (h0_2.trans (by decide)) (by decide) (zG_free (zG_free (zG_one (o := 1) (h3_1.trans (by decide)) (by decide) zG_nil))))⟩
    have k3_0 := zG_ne (o := 0) h3_0 (by decide) (by decide)
    have k3_1 := zG_ne (o := 1) h3_1 (by decide) (by decide)
    exact ⟨_, List.mem_of_getElem? (i := 15) rfl, (zG_one (o := 2) (h0_2.trans (by decide)) (by decide) (zG_free (zG_free (zG_cons (by omega) (by omega) (fun h => nomatch h) zG_nil))))⟩
  by_cases h0_3 : u0 = 3
  · by_cases hn3 : u3.toInt < 0
    · exact ⟨_, List.mem_of_getElem? (i := 16) rfl, (zG_one (o := 3) (h0_3.trans (by decide)) (by decide) (zG_free (zG_free (zG_neg hn3 zG_nil))))⟩
    by_cases h3_0 : u3 = 0
    · exact ⟨_, List.mem_of_getElem? (i := 17) rfl, (zG_one (o := 3) (h0_3.trans (by decide)) (by decide) (zG_free (zG_free (zG_one (o := 0) (h3_0.trans (by decide)) (by decide) zG_nil))))⟩
    by_cases h3_1 : u3 = 1
    · exact ⟨_, List.mem_of_getElem? (i := 18) rfl, (zG_one (o := 3) (h0_3.trans (by decide)) (by decide) (zG_free (zG_free (zG_one (o := 1) (h3_1.trans (by decide)) (by decide) zG_nil))))⟩
    have k3_0 := zG_ne (o := 0) h3_0 (by decide) (by decide)
    have k3_1 := zG_ne (o := 1) h3_1 (by decide) (by decide)
    exact ⟨_, List.mem_of_getElem? (i := 19) rfl, (zG_one (o := 3) (h0_3.trans (by decide)) (by decide) (zG_free (zG_free (zG_cons (by omega) (by omega) (fun h => nomatch h) zG_nil))))⟩
  have k0_0 := zG_ne (o := 0) h0_0 (by decide) (by decide)
  have k0_1 := zG_ne (o := 1) h0_1 (by decide) (by decide)
  have k0_2 := zG_ne (o := 2) h0_2 (by decide) (by decide)
  have k0_3 := zG_ne (o := 3) h0_3 (by decide) (by decide)
  by_cases hn3 : u3.toInt < 0
  · exact ⟨_, List.mem_of_getElem? (i := 20) rfl, (zG_cons (by omega) (by omega) (fun h => nomatch h) (zG_free (zG_free (zG_neg hn3 zG_nil))))⟩
  by_cases h3_0 : u3 = 0
  · exact ⟨_, List.mem_of_getElem? (i := 21) rfl, (zG_cons (by omega) (by omega) (fun h => nomatch h) (zG_free (zG_free (zG_one (o := 0) (h3_0.trans (by decide)) (by decide) zG_nil))))⟩
  by_cases h3_1 : u3 = 1
  · exact ⟨_, List.mem_of_getElem? (i := 22) rfl, (zG_cons (by omega) (by omega) (fun h => nomatch h) (zG_free (zG_free (zG_one (o := 1) (h3_1.trans (by decide)) (by decide) zG_nil))))⟩
  have k3_0 := zG_ne (o := 0) h3_0 (by decide) (by decide)
  have k3_1 := zG_ne (o := 1) h3_1 (by decide) (by decide)
  exact ⟨_, List.mem_of_getElem? (i := 23) rfl, (zG_cons (by omega) (by omega) (fun h => nomatch h) (zG_free (zG_free (zG_cons (by omega) (by omega) (fun h => nomatch h) zG_nil))))⟩
theorem zG_liesIn (xs : Nat → Int32) : ∃ g ∈ zgs_liesIn, zr_G g (zL_nu xs 5) := by
  show ∃ g ∈ zgs_liesIn, zr_G g [xs 1, xs 2, xs 3, xs 4, xs 5]
  generalize xs 1 = u0
  generalize xs 2 = u1
  generalize xs 3 = u2
  generalize xs 4 = u3
  generalize xs 5 = u4
  have hb0 := zl_b_int u0
  have hlt0 := zl_b_lt u0
  by_cases hn0 : u0.toInt < 0
  · exact ⟨_, List.mem_of_getElem? (i := 0) rfl, (zG_neg hn0 (zG_free (zG_free (zG_free (zG_free zG_nil)))))⟩
  by_cases h0_0 : u0 = 0
  · exact ⟨_, List.mem_of_getElem? (i := 1) rfl, (zG_one (o := 0) (h0_0.trans (by decide)) (by decide) (zG_free (zG_free (zG_free (zG_free zG_nil)))))⟩
  by_cases h0_1 : u0 = 1
  · exact ⟨_, List.mem_of_getElem? (i := 2) rfl, (zG_one (o := 1) (h0_1.trans (by decide)) (by decide) (zG_free (zG_free (zG_free (zG_free zG_nil)))))⟩
  by_cases h0_2 : u0 = 2
  · exact ⟨_, List.mem_of_getElem? (i := 3) rfl, (zG_one (o := 2) (h0_2.trans (by decide)) (by decide) (zG_free (zG_free (zG_free (zG_free zG_nil)))))⟩
  by_cases h0_3 : u0 = 3
  · exact ⟨_, List.mem_of_getElem? (i := 4) rfl, (zG_one (o := 3) (h0_3.trans (by decide)) (by decide) (zG_free (zG_free (zG_free (zG_free zG_nil)))))⟩
  have k0_0 := zG_ne (o := 0) h0_0 (by decide) (by decide)
  have k0_1 := zG_ne (o := 1) h0_1 (by decide) (by decide)
  have k0_2 := zG_ne (o := 2) h0_2 (by decide) (by decide)
  have k0_3 := zG_ne (o := 3) h0_3 (by decide) (by decide)
  exact ⟨_, List.mem_of_getElem? (i := 5) rfl, (zG_cons (by omega) (by omega) (fun h => nomatch h) (zG_free (zG_free (zG_free (zG_free zG_nil)))))⟩
theorem zG_within (xs : Nat → Int32) : ∃ g ∈ zgs_within, zr_G g (zL_nu xs 4) := by
  show ∃ g ∈ zgs_within, zr_G g [xs 1, xs 2, xs 3, xs 4]
  generalize xs 1 = u0
  generalize xs 2 = u1
  generalize xs 3 = u2
  generalize xs 4 = u3
  have hb0 := zl_b_int u0
  have hlt0 := zl_b_lt u0
  by_cases hn0 : u0.toInt < 0
  · exact ⟨_, List.mem_of_getElem? (i := 0) rfl, (zG_neg hn0 (zG_free (zG_free (zG_free zG_nil))))⟩
  by_cases h0_0 : u0 = 0
  · exact ⟨_, List.mem_of_getElem? (i := 1) rfl, (zG_one (o := 0) (h0_0.trans (by decide)) (by decide) (zG_free (zG_free (zG_free zG_nil))))⟩
  by_cases h0_1 : u0 = 1
  · exact ⟨_, List.mem_of_getElem? (i := 2) rfl, (zG_one (o := 1) (h0_1.trans (by decide)) (by decide) (zG_free (zG_free (zG_free zG_nil))))⟩
  by_cases h0_2 : u0 = 2
  · exact ⟨_, List.mem_of_getElem? (i := 3) rfl, (zG_one (o := 2) (h0_2.trans (by decide)) (by decide) (zG_free (zG_free (zG_free zG_nil))))⟩
  by_cases h0_3 : u0 = 3
  · exact ⟨_, List.mem_of_getElem? (i := 4) rfl, (zG_one (o := 3) (h0_3.trans (by decide)) (by decide) (zG_free (zG_free (zG_free zG_nil))))⟩
  have k0_0 := zG_ne (o := 0) h0_0 (by decide) (by decide)
  have k0_1 := zG_ne (o := 1) h0_1 (by decide) (by decide)
  have k0_2 := zG_ne (o := 2) h0_2 (by decide) (by decide)
  have k0_3 := zG_ne (o := 3) h0_3 (by decide) (by decide)
  exact ⟨_, List.mem_of_getElem? (i := 5) rfl, (zG_cons (by omega) (by omega) (fun h => nomatch h) (zG_free (zG_free (zG_free zG_nil))))⟩
theorem zG_ways (xs : Nat → Int32) : ∃ g ∈ zgs_ways, zr_G g (zL_nu xs 4) := by
  show ∃ g ∈ zgs_ways, zr_G g [xs 1, xs 2, xs 3, xs 4]
  generalize xs 1 = u0
  generalize xs 2 = u1
  generalize xs 3 = u2
  generalize xs 4 = u3
  have hb3 := zl_b_int u3
  have hlt3 := zl_b_lt u3
  by_cases hn3 : u3.toInt < 0
  · exact ⟨_, List.mem_of_getElem? (i := 0) rfl, (zG_free (zG_free (zG_free (zG_neg hn3 zG_nil))))⟩
  by_cases h3_0 : u3 = 0
  · exact ⟨_, List.mem_of_getElem? (i := 1) rfl, (zG_free (zG_free (zG_free (zG_one (o := 0) (h3_0.trans (by decide)) (by decide) zG_nil))))⟩
  by_cases h3_1 : u3 = 1
  · exact ⟨_, List.mem_of_getElem? (i := 2) rfl, (zG_free (zG_free (zG_free (zG_one (o := 1) (h3_1.trans (by decide)) (by decide) zG_nil))))⟩
  by_cases h3_2 : u3 = 2
  · exact ⟨_, List.mem_of_getElem? (i := 3) rfl, (zG_free (zG_free (zG_free (zG_one (o := 2) (h3_2.trans (by decide)) (by decide) zG_nil))))⟩
  by_cases h3_3 : u3 = 3
  · exact ⟨_, List.mem_of_getElem? (i := 4) rfl, (zG_free (zG_free (zG_free (zG_one (o := 3) (h3_3.trans (by decide)) (by decide) zG_nil))))⟩
  by_cases h3_4 : u3 = 4
  · exact ⟨_, List.mem_of_getElem? (i := 5) rfl, (zG_free (zG_free (zG_free (zG_one (o := 4) (h3_4.trans (by decide)) (by decide) zG_nil))))⟩
  by_cases h3_5 : u3 = 5
  · exact ⟨_, List.mem_of_getElem? (i := 6) rfl, (zG_free (zG_free (zG_free (zG_one (o := 5) (h3_5.trans (by decide)) (by decide) zG_nil))))⟩
  by_cases h3_6 : u3 = 6
  · exact ⟨_, List.mem_of_getElem? (i := 7) rfl, (zG_free (zG_free (zG_free (zG_one (o := 6) (h3_6.trans (by decide)) (by decide) zG_nil))))⟩
  by_cases h3_7 : u3 = 7
  · exact ⟨_, List.mem_of_getElem? (i := 8) rfl, (zG_free (zG_free (zG_free (zG_one (o := 7) (h3_7.trans (by decide)) (by decide) zG_nil))))⟩
  by_cases h3_8 : u3 = 8
  · exact ⟨_, List.mem_of_getElem? (i := 9) rfl, (zG_free (zG_free (zG_free (zG_one (o := 8) (h3_8.trans (by decide)) (by decide) zG_nil))))⟩
  by_cases h3_9 : u3 = 9
  · exact ⟨_, List.mem_of_getElem? (i := 10) rfl, (zG_free (zG_free (zG_free (zG_one (o := 9) (h3_9.trans (by decide)) (by decide) zG_nil))))⟩
  by_cases h3_10 : u3 = 10
  · exact ⟨_, List.mem_of_getElem? (i := 11) rfl, (zG_free (zG_free (zG_free (zG_one (o := 10) (h3_10.trans (by decide)) (by decide) zG_nil))))⟩
  by_cases h3_11 : u3 = 11
  · exact ⟨_, List.mem_of_getElem? (i := 12) rfl, (zG_free (zG_free (zG_free (zG_one (o := 11) (h3_11.trans (by decide)) (by decide) zG_nil))))⟩
  by_cases h3_12 : u3 = 12
  · exact ⟨_, List.mem_of_getElem? (i := 13) rfl, (zG_free (zG_free (zG_free (zG_one (o := 12) (h3_12.trans (by decide)) (by decide) zG_nil))))⟩
  have k3_0 := zG_ne (o := 0) h3_0 (by decide) (by decide)
  have k3_1 := zG_ne (o := 1) h3_1 (by decide) (by decide)
  have k3_2 := zG_ne (o := 2) h3_2 (by decide) (by decide)
  have k3_3 := zG_ne (o := 3) h3_3 (by decide) (by decide)
  have k3_4 := zG_ne (o := 4) h3_4 (by decide) (by decide)
  have k3_5 := zG_ne (o := 5) h3_5 (by decide) (by decide)
  have k3_6 := zG_ne (o := 6) h3_6 (by decide) (by decide)
  have k3_7 := zG_ne (o := 7) h3_7 (by decide) (by decide)
  have k3_8 := zG_ne (o := 8) h3_8 (by decide) (by decide)
  have k3_9 := zG_ne (o := 9) h3_9 (by decide) (by decide)
  have k3_10 := zG_ne (o := 10) h3_10 (by decide) (by decide)
  have k3_11 := zG_ne (o := 11) h3_11 (by decide) (by decide)
  have k3_12 := zG_ne (o := 12) h3_12 (by decide) (by decide)
  exact ⟨_, List.mem_of_getElem? (i := 14) rfl, (zG_free (zG_free (zG_free (zG_cons (by omega) (by omega) (fun h => nomatch h) zG_nil))))⟩
