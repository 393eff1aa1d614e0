/-! LAWS OF DIVISION, FIELDS, ARRAYS, NEW CELLS (written by wip/p1/genops3.py) -/
theorem zn_divs {a b n : Nat} (h : zz_divn a b = some n) : a < 2 ^ 31 ∧ 0 < b ∧ b < 2 ^ 31 ∧ n = a / b := by
  unfold zz_divn at h
  cases hc : Nat.ble a 2147483647 && (Nat.ble b 2147483647 && Nat.ble 1 b) with
  | false => rw [hc] at h; cases h
  | true =>
    rw [hc] at h
    rw [Bool.and_eq_true, Bool.and_eq_true] at hc
    have h1 := Nat.le_of_ble_eq_true hc.1
    have h2 := Nat.le_of_ble_eq_true hc.2.1
    have h3 := Nat.le_of_ble_eq_true hc.2.2
    exact ⟨by omega, by omega, by omega, (Option.some.inj h).symm⟩
theorem zn_rems {a b n : Nat} (h : zz_remn a b = some n) : a < 2 ^ 31 ∧ 0 < b ∧ b < 2 ^ 31 ∧ n = a % b := by
  unfold zz_remn at h
  cases hc : Nat.ble a 2147483647 && (Nat.ble b 2147483647 && Nat.ble 1 b) with
  | false => rw [hc] at h; cases h
  | true =>
    rw [hc] at h
    rw [Bool.and_eq_true, Bool.and_eq_true] at hc
    have h1 := Nat.le_of_ble_eq_true hc.1
    have h2 := Nat.le_of_ble_eq_true hc.2.1
    have h3 := Nat.le_of_ble_eq_true hc.2.2
    exact ⟨by omega, by omega, by omega, (Option.some.inj h).symm⟩
theorem zn_div {a b n : Nat} (h : zz_divn a b = some n) : nI a / nI b = nI n := by
  obtain ⟨h1, h2, h3, rfl⟩ := zn_divs h
  exact pk_div h1 h2 h3
theorem zn_rem {a b n : Nat} (h : zz_remn a b = some n) : nI a - nI a / nI b * nI b = nI n := by
  obtain ⟨h1, h2, h3, rfl⟩ := zn_rems h
  exact pk_rem h1 h2 h3
theorem zr_L.mono {ρ ρ2 : List Nat} {ν ν2 : List Int32} {la : List (Option zz_V)} {ls : Array Slot} {nL : Nat} (h1 : ρ <+: ρ2) (h2 : ν <+: ν2) (h : zr_L ρ ν la ls nL) : zr_L ρ2 ν2 la ls nL :=
  ⟨h.1, h.2.1, fun k a hk => by obtain ⟨v, e1, e2⟩ := h.2.2 k a hk; exact ⟨v, e1.mono h1 h2, e2⟩⟩
/-- a new unknown -/
theorem zr_new {ν : List Int32} {g : zz_G} (hG : zr_G g ν) (ρ : List Nat) (i : Int32) : zr_V ρ (ν ++ [i]) (.inr (.inr (.inr g.length))) (.int i) := ⟨i, by rw [hG.1]; simp, rfl⟩
/-- an int that is not below 0 -/
theorem zl_pos {X : Int32} (h : 2147483648 ≤ zr_b X) : X = nI (zr_b X - 2147483648) ∧ zr_b X - 2147483648 < 2 ^ 31 := by
  have h2 := zl_b_lt X
  refine ⟨zl_b_inj ?_, by omega⟩
  rw [zl_b]
  unfold zz_b
  omega
theorem zl_b_small {n : Nat} (h : n < 2 ^ 31) : zr_b (nI n) = n + 2147483648 := by
  rw [zl_b]
  unfold zz_b
  omega
theorem zl_dec {X : Int32} (h : 1 ≤ zr_b X) : zr_b (X + nI 4294967295) = zr_b X - 1 := by
  have h2 := zl_b_lt X
  have h3 : X + nI 4294967295 = nI (zz_b (zr_b X) + 4294967295) := by
    rw [← nI_add, ← zl_b_back]
  rw [h3, zl_b]
  unfold zz_b
  omega
theorem zo_idivn {M : zr_M} {pcs : List Nat} {k pc : Nat} (hpc : pcs.getD k 0 = pc) (hp1 : pcs.getD (k + 1) 0 = pc + 1) (hdg : decode M.2.1 pc = .ok (.idiv, 1)) : zr_Ok M pcs k (zz_bin k zz_divn) := by
  intro E d hX st
  obtain ⟨p, l, e, R, s, m, args, below, meth, c, D, A, H0, nL, ρ0, ν0, Qc⟩ := E
  obtain ⟨own, cc, nl, ret, nm⟩ := M
  obtain ⟨sk, la, h, g, nc, ns⟩ := st
  obtain ⟨hx, hb, hml, hown, hts, hK, hlk, hr, hnm, rfl, hA, hR1, hR2, hEx⟩ := hX
  match sk with
  | [] => exact trivial
  | [_] => exact trivial
  | y :: x :: sk =>
  refine zr_ci (st := (y :: x :: sk, la, h, g, nc, ns)) (fun b hb2 => zr_ci (st := (y :: x :: sk, la, h, g, nc, ns)) (fun a ha2 => ?_))
  cases hf : zz_divn a b with
  | none => exact trivial
  | some n =>
  rintro ⟨b1, b2, hn⟩
  refine ⟨b1, b2, fun ρ ν ws H locs ls kk hS => ?_⟩
  show W p l e R s m args below meth c H locs nc ns _ (F0 m (pcs.getD k 0) ls kk)
  rw [hpc]
  obtain ⟨hS1, hG, hH, hL, hV, hP, hD, hS⟩ := hS
  match kk, hV with
  | vy :: vx :: kk, ⟨hy1, hx1, hV⟩ =>
  have ey := hb2 ρ ν vy hG hy1
  have ex := ha2 ρ ν vx hG hx1
  subst ey; subst ex
  have hn := hn ρ ν ws H locs ls (.int (nI n) :: kk) ⟨hS1, hG, hH, hL, ⟨rfl, hV⟩, hP, hD, hS⟩
  rw [hp1] at hn
  refine lv_idiv hx hb hdg (nI_ne0 (zn_divs hf).2.1 (zn_divs hf).2.2.1) ?_
  rw [zn_div hf]
  exact hn
theorem zo_iremn {M : zr_M} {pcs : List Nat} {k pc : Nat} (hpc : pcs.getD k 0 = pc) (hp1 : pcs.getD (k + 1) 0 = pc + 1) (hdg : decode M.2.1 pc = .ok (.irem, 1)) : zr_Ok M pcs k (zz_bin k zz_remn) := by
  intro E d hX st
  obtain ⟨p, l, e, R, s, m, args, below, meth, c, D, A, H0, nL, ρ0, ν0, Qc⟩ := E
  obtain ⟨own, cc, nl, ret, nm⟩ := M
  obtain ⟨sk, la, h, g, nc, ns⟩ := st
  obtain ⟨hx, hb, hml, hown, hts, hK, hlk, hr, hnm, rfl, hA, hR1, hR2, hEx⟩ := hX
  match sk with
  | [] => exact trivial
  | [_] => exact trivial
  | y :: x :: sk =>
  refine zr_ci (st := (y :: x :: sk, la, h, g, nc, ns)) (fun b hb2 => zr_ci (st := (y :: x :: sk, la, h, g, nc, ns)) (fun a ha2 => ?_))
  cases hf : zz_remn a b with
  | none => exact trivial
  | some n =>
  rintro ⟨b1, b2, hn⟩
  refine ⟨b1, b2, fun ρ ν ws H locs ls kk hS => ?_⟩
  show W p l e R s m args below meth c H locs nc ns _ (F0 m (pcs.getD k 0) ls kk)
  rw [hpc]
  obtain ⟨hS1, hG, hH, hL, hV, hP, hD, hS⟩ := hS
  match kk, hV with
  | vy :: vx :: kk, ⟨hy1, hx1, hV⟩ =>
  have ey := hb2 ρ ν vy hG hy1
  have ex := ha2 ρ ν vx hG hx1
  subst ey; subst ex
  have hn := hn ρ ν ws H locs ls (.int (nI n) :: kk) ⟨hS1, hG, hH, hL, ⟨rfl, hV⟩, hP, hD, hS⟩
  rw [hp1] at hn
  refine lv_irem hx hb hdg (nI_ne0 (zn_rems hf).2.1 (zn_rems hf).2.2.1) ?_
  rw [zn_rem hf]
  exact hn
theorem zo_idiv {M : zr_M} {pcs : List Nat} {k pc : Nat} (hpc : pcs.getD k 0 = pc) (hp1 : pcs.getD (k + 1) 0 = pc + 1) (hdg : decode M.2.1 pc = .ok (.idiv, 1)) : zr_Ok M pcs k (zz_div k) := by
  intro E d hX st
  show zr_res E d pcs k st (bif zz_isWide st then zz_wideB (fun lo hi b => (lo / b, hi / b)) st else zz_bin k zz_divn st)
  refine zr_bif (fun hw => ?_) (fun _ => zo_idivn hpc hp1 hdg E d hX st)
  clear hw
  obtain ⟨p, l, e, R, s, m, args, below, meth, c, D, A, H0, nL, ρ0, ν0, Qc⟩ := E
  obtain ⟨own, cc, nl, ret, nm⟩ := M
  obtain ⟨sk, la, h, g, nc, ns⟩ := st
  obtain ⟨hx, hb, hml, hown, hts, hK, hlk, hr, hnm, rfl, hA, hR1, hR2, hEx⟩ := hX
  match sk with
  | [] => exact trivial
  | [v] => rcases v with v | v | v | v <;> exact trivial
  | .inr (.inl _) :: _ :: _ => exact trivial
  | .inr (.inr (.inl _)) :: _ :: _ => exact trivial
  | .inr (.inr (.inr _)) :: _ :: _ => exact trivial
  | .inl _ :: .inl _ :: _ => exact trivial
  | .inl _ :: .inr (.inl _) :: _ => exact trivial
  | .inl _ :: .inr (.inr (.inl _)) :: _ => exact trivial
  | .inl b :: .inr (.inr (.inr i)) :: sk =>
  unfold zz_wideB
  simp only
  rw [zl_nth]
  cases hg : g[i]? with
  | none => exact zr_fail
  | some q =>
  obtain ⟨lo, hi, tag⟩ := q
  refine zr_bif (fun hc => ?_) (fun _ => zr_fail)
  rw [Bool.and_eq_true, Bool.and_eq_true] at hc
  have hlo := Nat.le_of_ble_eq_true hc.1
  have hb2 := Nat.le_of_ble_eq_true hc.2.1
  have hb1 : 0 < b := Nat.le_of_ble_eq_true hc.2.2
  rintro ⟨b1, b2, hn⟩
  refine ⟨b1, b2, fun ρ ν ws H locs ls kk hS => ?_⟩
  show W p l e R s m args below meth c H locs nc ns _ (F0 m (pcs.getD k 0) ls kk)
  rw [hpc]
  obtain ⟨hS1, hG, hH, hL, hV, hP, hD, hS⟩ := hS
  match kk, hV with
  | _ :: _ :: kk, ⟨rfl, ⟨X, hX1, rfl⟩, hV⟩ =>
  obtain ⟨X2, e1, e2, e3, -⟩ := hG.2 i lo hi tag hg
  rw [hX1] at e1
  cases e1
  obtain ⟨hp1', hp2⟩ := zl_pos (X := X) (by omega)
  have hq1 : (lo - 2147483648) / b ≤ (zr_b X - 2147483648) / b := Nat.div_le_div_right (by omega)
  have hq2 : (zr_b X - 2147483648) / b ≤ (hi - 2147483648) / b := Nat.div_le_div_right (by omega)
  have hq3 : (zr_b X - 2147483648) / b < 2 ^ 31 := Nat.lt_of_le_of_lt (Nat.div_le_self _ _) hp2
  have hval := pk_div (a := zr_b X - 2147483648) (d := b) hp2 hb1 (by omega)
  rw [← hp1'] at hval
  have hz := zl_b_small hq3
  have hn := hn ρ (ν ++ [nI ((zr_b X - 2147483648) / b)]) ws H locs ls (.int (nI ((zr_b X - 2147483648) / b)) :: kk) ⟨⟨hS1.1, hS1.2.trans (List.prefix_append _ _)⟩, hG.grow (by rw [hz]; exact Nat.add_le_add_right hq1 _) (by rw [hz]; exact Nat.add_le_add_right hq2 _), hH.nu (List.prefix_append _ _), hL.mono (List.prefix_refl _) (List.prefix_append _ _), ⟨zr_new hG _ _, hV.mono (List.prefix_refl _) (List.prefix_append _ _)⟩, hP, hD, hS⟩
  rw [hp1] at hn
  refine lv_idiv hx hb hdg (nI_ne0 hb1 (by omega)) ?_
  rw [hval]
  exact hn
theorem zo_irem {M : zr_M} {pcs : List Nat} {k pc : Nat} (hpc : pcs.getD k 0 = pc) (hp1 : pcs.getD (k + 1) 0 = pc + 1) (hdg : decode M.2.1 pc = .ok (.irem, 1)) : zr_Ok M pcs k (zz_rem k) := by
  intro E d hX st
  show zr_res E d pcs k st (bif zz_isWide st then zz_wideB (fun _ _ b => (0, b - 1)) st else zz_bin k zz_remn st)
  refine zr_bif (fun hw => ?_) (fun _ => zo_iremn hpc hp1 hdg E d hX st)
  clear hw
  obtain ⟨p, l, e, R, s, m, args, below, meth, c, D, A, H0, nL, ρ0, ν0, Qc⟩ := E
  obtain ⟨own, cc, nl, ret, nm⟩ := M
  obtain ⟨sk, la, h, g, nc, ns⟩ := st
  obtain ⟨hx, hb, hml, hown, hts, hK, hlk, hr, hnm, rfl, hA, hR1, hR2, hEx⟩ := hX
  match sk with
  | [] => exact trivial
  | [v] => rcases v with v | v | v | v <;> exact trivial
  | .inr (.inl _) :: _ :: _ => exact trivial
  | .inr (.inr (.inl _)) :: _ :: _ => exact trivial
  | .inr (.inr (.inr _)) :: _ :: _ => exact trivial
  | .inl _ :: .inl _ :: _ => exact trivial
  | .inl _ :: .inr (.inl _) :: _ => exact trivial
  | .inl _ :: .inr (.inr (.inl _)) :: _ => exact trivial
  | .inl b :: .inr (.inr (.inr i)) :: sk =>
  unfold zz_wideB
  simp only
  rw [zl_nth]
  cases hg : g[i]? with
  | none => exact zr_fail
  | some q =>
  obtain ⟨lo, hi, tag⟩ := q
  refine zr_bif (fun hc => ?_) (fun _ => zr_fail)
  rw [Bool.and_eq_true, Bool.and_eq_true] at hc
  have hlo := Nat.le_of_ble_eq_true hc.1
  have hb2 := Nat.le_of_ble_eq_true hc.2.1
  have hb1 : 0 < b := Nat.le_of_ble_eq_true hc.2.2
  rintro ⟨b1, b2, hn⟩
  refine ⟨b1, b2, fun ρ ν ws H locs ls kk hS => ?_⟩
  show W p l e R s m args below meth c H locs nc ns _ (F0 m (pcs.getD k 0) ls kk)
  rw [hpc]
  obtain ⟨hS1, hG, hH, hL, hV, hP, hD, hS⟩ := hS
  match kk, hV with
  | _ :: _ :: kk, ⟨rfl, ⟨X, hX1, rfl⟩, hV⟩ =>
  obtain ⟨X2, e1, e2, e3, -⟩ := hG.2 i lo hi tag hg
  rw [hX1] at e1
  cases e1
  obtain ⟨hp1', hp2⟩ := zl_pos (X := X) (by omega)
  have hq1 : 0 ≤ (zr_b X - 2147483648) % b := Nat.zero_le _
  have hq2 : (zr_b X - 2147483648) % b ≤ b - 1 := by have := Nat.mod_lt (zr_b X - 2147483648) hb1; omega
  have hq3 : (zr_b X - 2147483648) % b < 2 ^ 31 := Nat.lt_of_le_of_lt (Nat.mod_le _ _) hp2
  have hval := pk_rem (a := zr_b X - 2147483648) (d := b) hp2 hb1 (by omega)
  rw [← hp1'] at hval
  have hz := zl_b_small hq3
  have hn := hn ρ (ν ++ [nI ((zr_b X - 2147483648) % b)]) ws H locs ls (.int (nI ((zr_b X - 2147483648) % b)) :: kk) ⟨⟨hS1.1, hS1.2.trans (List.prefix_append _ _)⟩, hG.grow (by rw [hz]; exact Nat.add_le_add_right hq1 _) (by rw [hz]; exact Nat.add_le_add_right hq2 _), hH.nu (List.prefix_append _ _), hL.mono (List.prefix_refl _) (List.prefix_append _ _), ⟨zr_new hG _ _, hV.mono (List.prefix_refl _) (List.prefix_append _ _)⟩, hP, hD, hS⟩
  rw [hp1] at hn
  refine lv_irem hx hb hdg (nI_ne0 hb1 (by omega)) ?_
  rw [hval]
  exact hn
theorem zo_iinc {M : zr_M} {pcs : List Nat} {k pc i n2 : Nat} {n : Int} (hpc : pcs.getD k 0 = pc) (hp1 : pcs.getD (k + 1) 0 = pc + 3) (hdg : decode M.2.1 pc = .ok (.iinc i n, 3)) (hv : Int32.ofInt n = nI n2) (hi : i < M.2.2.1) : zr_Ok M pcs k (zz_inc k i n2) := by
  intro E d hX st
  refine zr_bif (fun hw => ?_) (fun hw => ?_)
  · clear hw
    obtain ⟨p, l, e, R, s, m, args, below, meth, c, D, A, H0, nL, ρ0, ν0, Qc⟩ := E
    obtain ⟨own, cc, nl, ret, nm⟩ := M
    obtain ⟨sk, la, h, g, nc, ns⟩ := st
    obtain ⟨hx, hb, hml, hown, hts, hK, hlk, hr, hnm, rfl, hA, hR1, hR2, hEx⟩ := hX
    unfold zz_incW
    simp only
    rw [zl_nth]
    match hl : la[i]? with
    | none => exact zr_fail
    | some none => exact zr_fail
    | some (some (.inl _)) => exact zr_fail
    | some (some (.inr (.inl _))) => exact zr_fail
    | some (some (.inr (.inr (.inl _)))) => exact zr_fail
    | some (some (.inr (.inr (.inr j)))) =>
    simp only
    rw [zl_nth]
    cases hg : g[j]? with
    | none => exact zr_fail
    | some q =>
    obtain ⟨lo, hi2, tag⟩ := q
    refine zr_bif (fun hc => ?_) (fun _ => zr_fail)
    rw [Bool.and_eq_true, Bool.and_eq_true] at hc
    have hn2 := Nat.eq_of_beq_eq_true hc.1
    have hlo := Nat.le_of_ble_eq_true hc.2.1
    subst hn2
    rintro ⟨b1, b2, hn⟩
    refine ⟨b1, b2, fun ρ ν ws H locs ls kk hS => ?_⟩
    show W p l e R s m args below meth c H locs nc ns _ (F0 m (pcs.getD k 0) ls kk)
    rw [hpc]
    obtain ⟨hS1, hG, hH, hL, hV, hP, hD, hS⟩ := hS
    obtain ⟨x, ⟨X, hX1, rfl⟩, hx2⟩ := hL.2.2 i _ hl
    obtain ⟨X2, e1, e2, e3, -⟩ := hG.2 j lo hi2 tag hg
    rw [hX1] at e1
    cases e1
    have hz := zl_dec (X := X) (by omega)
    obtain ⟨kp, hkp⟩ := List.getElem?_of_mem (zl_in hx2)
    refine lv_iinc (v := X + nI 4294967295) hx hb hdg (zl_has hL) hkp (by rw [hv]) hi rfl (fun ls2 hl2 => ?_)
    have hL2 := hL.mono (List.prefix_refl ρ) (List.prefix_append ν [X + nI 4294967295])
    have hn := hn ρ (ν ++ [X + nI 4294967295]) ws H locs ls2 kk ⟨⟨hS1.1, hS1.2.trans (List.prefix_append _ _)⟩, hG.grow (by rw [hz]; omega) (by rw [hz]; omega), hH.nu (List.prefix_append _ _), zl_put1 hL2 (zr_new hG _ _) rfl hl2, hV.mono (List.prefix_refl _) (List.prefix_append _ _), hP, hD, hS⟩
    rw [hp1] at hn
    exact hn
  · clear hw
    obtain ⟨p, l, e, R, s, m, args, below, meth, c, D, A, H0, nL, ρ0, ν0, Qc⟩ := E
    obtain ⟨own, cc, nl, ret, nm⟩ := M
    obtain ⟨sk, la, h, g, nc, ns⟩ := st
    obtain ⟨hx, hb, hml, hown, hts, hK, hlk, hr, hnm, rfl, hA, hR1, hR2, hEx⟩ := hX
    simp only
    rw [zl_nth]
    match hl : la[i]? with
    | none => exact zr_fail
    | some none => exact zr_fail
    | some (some v) =>
    refine zr_ci (st := (sk, la, h, g, nc, ns)) (fun a ha => ?_)
    rintro ⟨b1, b2, hn⟩
    refine ⟨b1, b2, fun ρ ν ws H locs ls kk hS => ?_⟩
    show W p l e R s m args below meth c H locs nc ns _ (F0 m (pcs.getD k 0) ls kk)
    rw [hpc]
    obtain ⟨hS1, hG, hH, hL, hV, hP, hD, hS⟩ := hS
    obtain ⟨x, hx1, hx2⟩ := hL.2.2 i _ hl
    have ex := ha ρ ν x hG hx1
    subst ex
    obtain ⟨kp, hkp⟩ := List.getElem?_of_mem (zl_in hx2)
    refine lv_iinc (v := nI ((a + n2) % 4294967296)) hx hb hdg (zl_has hL) hkp (by rw [hv, zn_mod, nI_add]) hi rfl (fun ls2 hl2 => ?_)
    have hn := hn ρ ν ws H locs ls2 kk ⟨hS1, hG, hH, zl_put1 hL rfl rfl hl2, hV, hP, hD, hS⟩
    rw [hp1] at hn
    exact hn
theorem zo_ifnn {M : zr_M} {pcs : List Nat} {k pc t tgt : Nat} {off : Int} (hpc : pcs.getD k 0 = pc) (hp1 : pcs.getD (k + 1) 0 = pc + 3) (hpt : pcs.getD t 0 = tgt) (hdg : decode M.2.1 pc = .ok (.ifnonnull off, 3)) (ht : (pc : Int) + off = (tgt : Int)) : zr_Ok M pcs k (zz_ifnn t) := by
  intro E d hX st
  obtain ⟨p, l, e, R, s, m, args, below, meth, c, D, A, H0, nL, ρ0, ν0, Qc⟩ := E
  obtain ⟨own, cc, nl, ret, nm⟩ := M
  obtain ⟨sk, la, h, g, nc, ns⟩ := st
  obtain ⟨hx, hb, hml, hown, hts, hK, hlk, hr, hnm, rfl, hA, hR1, hR2, hEx⟩ := hX
  match sk with
  | [] => exact trivial
  | .inl _ :: _ => exact trivial
  | .inr (.inr (.inl _)) :: _ => exact trivial
  | .inr (.inr (.inr _)) :: _ => exact trivial
  | .inr (.inl a) :: sk =>
  cases a with
  | zero =>
    rintro ⟨b1, b2, hn⟩
    refine ⟨b1, b2, fun ρ ν ws H locs ls kk hS => ?_⟩
    show W p l e R s m args below meth c H locs nc ns _ (F0 m (pcs.getD k 0) ls kk)
    rw [hpc]
    obtain ⟨hS1, hG, hH, hL, hV, hP, hD, hS⟩ := hS
    match kk, hV with
    | _ :: kk, ⟨rfl, hV⟩ =>
      have hn := hn ρ ν ws H locs ls kk ⟨hS1, hG, hH, hL, hV, hP, hD, hS⟩
      rw [hp1] at hn
      exact lv_ifnonnullN hx hb hdg hn
  | succ a =>
    rintro ⟨b1, b2, hn⟩
    refine ⟨b1, b2, fun ρ ν ws H locs ls kk hS => ?_⟩
    show W p l e R s m args below meth c H locs nc ns _ (F0 m (pcs.getD k 0) ls kk)
    rw [hpc]
    obtain ⟨hS1, hG, hH, hL, hV, hP, hD, hS⟩ := hS
    match kk, hV with
    | _ :: kk, ⟨⟨q, hq, rfl⟩, hV⟩ =>
      have hn := hn ρ ν ws H locs ls kk ⟨hS1, hG, hH, hL, hV, hP, hD, hS⟩
      rw [hpt] at hn
      exact lv_ifnonnull hx hb hdg ht hn
theorem zo_getf {M : zr_M} {pcs : List Nat} {k pc idx ci j N : Nat} {C : String} {T : u_T} (hpc : pcs.getD k 0 = pc) (hp1 : pcs.getD (k + 1) 0 = pc + 3) (hdg : decode M.2.1 pc = .ok (.getfield idx, 3)) (hcl : zz_cl[ci]? = some (C, T, N)) (hin : ∀ w ∈ u_ws C T N, w ∈ zg_tbl) (hj : j < N) (hlink : Cond.fieldLink M.1 idx (T j).1 (T j).2.1 (T j).2.2.1 ∈ zg_tbl) : zr_Ok M pcs k (zz_get ci j) := by
  intro E d hX st
  obtain ⟨p, l, e, R, s, m, args, below, meth, c, D, A, H0, nL, ρ0, ν0, Qc⟩ := E
  obtain ⟨own, cc, nl, ret, nm⟩ := M
  obtain ⟨sk, la, h, g, nc, ns⟩ := st
  obtain ⟨hx, hb, hml, hown, hts, hK, hlk, hr, hnm, rfl, hA, hR1, hR2, hEx⟩ := hX
  match sk with
  | [] => exact trivial
  | .inl _ :: _ => exact trivial
  | .inr (.inr (.inl _)) :: _ => exact trivial
  | .inr (.inr (.inr _)) :: _ => exact trivial
  | .inr (.inl 0) :: _ => exact trivial
  | .inr (.inl (a + 1)) :: sk =>
  show zr_res _ d pcs k _ (match zz_nth h a with
    | some (.inl (d, fs)) => bif Nat.beq d ci then (match zz_nth fs j with
      | some v => .inl (v :: sk, la, h, g, nc, ns)
      | none => zz_fail) else zz_fail
    | _ => zz_fail)
  rw [zl_nth]
  match hc1 : h[a]? with
  | none => exact zr_fail
  | some (.inr _) => exact zr_fail
  | some (.inl (d2, fs)) =>
  refine zr_bif (fun hd => ?_) (fun _ => zr_fail)
  have hd := Nat.eq_of_beq_eq_true hd
  subst hd
  rw [zl_nth]
  match hf : fs[j]? with
  | none => exact zr_fail
  | some v =>
  rintro ⟨b1, b2, hn⟩
  refine ⟨b1, b2, fun ρ ν ws H locs ls kk hS => ?_⟩
  show W p l e R s m args below meth c H locs nc ns _ (F0 m (pcs.getD k 0) ls kk)
  rw [hpc]
  obtain ⟨hS1, hG, hH, hL, hV, hP, hD, hS⟩ := hS
  match kk, hV with
  | _ :: kk, ⟨⟨q, hq, rfl⟩, hV⟩ =>
  obtain ⟨ew, hw1, hw2⟩ := hH.cell hc1 hq
  match ew, hw2 with
  | .inr (_, vs), ⟨rfl, hvs⟩ =>
  obtain ⟨xv, hx1, hx2⟩ := hvs.at hf
  have hn := hn ρ ν ws H locs ls (xv :: kk) ⟨hS1, hG, hH, hL, ⟨hx2, hV⟩, hP, hD, hS⟩
  rw [hp1] at hn
  exact va_get hx hb hts hin hown hK hP a hw1 hcl j hj (hts _ hlink) (fun _ q => q) hx1 hdg hn
def zr_fk (t : Nat) (ty : FieldType) : Prop := match t with
  | 0 => ty = .int
  | 1 => ty = .boolean
  | _ => (∃ n, ty = .object n) ∨ ∃ e, ty = .array e
theorem zl_fit {t : Nat} {ty : FieldType} (hk : zr_fk t ty) {a : zz_V} (h : zz_fit t a = true) {ρ : List Nat} {ν : List Int32} {v : Value} (hv : zr_V ρ ν a v) : narrow ty v = v ∧ fits ty v = true := by
  match t, hk, h with
  | 0, hk, h =>
    have hk : ty = .int := hk
    obtain ⟨x, rfl⟩ := zl_I h hv
    rw [hk]
    exact ⟨rfl, rfl⟩
  | 1, hk, h =>
    have hk : ty = .boolean := hk
    match a, h, hv with
    | .inl n, h, hv =>
      have hn : n ≤ 1 := Nat.le_of_ble_eq_true h
      have : n = 0 ∨ n = 1 := by omega
      rw [hk]
      rcases this with rfl | rfl
      · cases hv
        exact ⟨by decide, by decide⟩
      · cases hv
        exact ⟨by decide, by decide⟩
  | t + 2, hk, h =>
    have hk : (∃ n, ty = .object n) ∨ ∃ e, ty = .array e := hk
    match a, h, hv with
    | .inr (.inl 0), h, hv =>
      cases hv
      rcases hk with ⟨n, rfl⟩ | ⟨e, rfl⟩ <;> exact ⟨rfl, rfl⟩
    | .inr (.inl (a + 1)), h, ⟨q, _, e⟩ =>
      cases e
      rcases hk with ⟨n, rfl⟩ | ⟨e, rfl⟩ <;> exact ⟨rfl, rfl⟩
theorem zo_putf {M : zr_M} {pcs : List Nat} {k pc idx ci j t N : Nat} {C : String} {T : u_T} {ty0 : Nat → FieldType} (hpc : pcs.getD k 0 = pc) (hp1 : pcs.getD (k + 1) 0 = pc + 3) (hdg : decode M.2.1 pc = .ok (.putfield idx, 3)) (hcl : zz_cl[ci]? = some (C, T, N)) (hin : ∀ w ∈ u_ws C T N, w ∈ zg_tbl) (hty : ∀ k, k < N → parseFieldDescriptor (T k).2.2.1 = some (ty0 k)) (hnm2 : ∀ a, a < N → ∀ b, b < N → a ≠ b → (T a).2.1 ≠ (T b).2.1) (hj : j < N) (hlink : Cond.fieldLink M.1 idx (T j).1 (T j).2.1 (T j).2.2.1 ∈ zg_tbl) (hfin : (T j).2.2.2 = false) (hfk : zr_fk t (ty0 j)) : zr_Ok M pcs k (zz_putf ci j t) := by
  intro E d hX st
  obtain ⟨p, l, e, R, s, m, args, below, meth, c, D, A, H0, nL, ρ0, ν0, Qc⟩ := E
  obtain ⟨own, cc, nl, ret, nm⟩ := M
  obtain ⟨sk, la, h, g, nc, ns⟩ := st
  obtain ⟨hx, hb, hml, hown, hts, hK, hlk, hr, hnm, rfl, hA, hR1, hR2, hEx⟩ := hX
  match sk with
  | [] => exact trivial
  | [_] => exact trivial
  | _ :: .inl _ :: _ => exact trivial
  | _ :: .inr (.inr (.inl _)) :: _ => exact trivial
  | _ :: .inr (.inr (.inr _)) :: _ => exact trivial
  | _ :: .inr (.inl 0) :: _ => exact trivial
  | v :: .inr (.inl (a + 1)) :: sk =>
  show zr_res _ d pcs k _ (match zz_nth h a with
    | some (.inl (d, fs)) => bif Nat.beq d ci && zz_fit t v then (match zz_nth fs j with
      | some _ => .inl (sk, la, zz_set (.inl (ci, zz_set v fs j)) h a, g, nc, ns)
      | none => zz_fail) else zz_fail
    | _ => zz_fail)
  rw [zl_nth]
  match hc1 : h[a]? with
  | none => exact zr_fail
  | some (.inr _) => exact zr_fail
  | some (.inl (d2, fs)) =>
  refine zr_bif (fun hd => ?_) (fun _ => zr_fail)
  rw [Bool.and_eq_true] at hd
  obtain ⟨hd, hc2⟩ := hd
  have hd := Nat.eq_of_beq_eq_true hd
  subst hd
  rw [zl_nth]
  match hf : fs[j]? with
  | none => exact zr_fail
  | some vold =>
  simp only
  rw [zl_set, zl_set]
  rintro ⟨b1, b2, hn⟩
  refine ⟨b1, b2, fun ρ ν ws H locs ls kk hS => ?_⟩
  show W p l e R s m args below meth c H locs nc ns _ (F0 m (pcs.getD k 0) ls kk)
  rw [hpc]
  obtain ⟨hS1, hG, hH, hL, hV, hP, hD, hS⟩ := hS
  match kk, hV with
  | xv :: _ :: kk, ⟨hv1, ⟨q, hq, rfl⟩, hV⟩ =>
  obtain ⟨ew, hw1, hw2⟩ := hH.cell hc1 hq
  match ew, hw2 with
  | .inr (_, vs), ⟨rfl, hvs⟩ =>
  have hlen : j < vs.length := by rw [← hvs.len]; exact (List.getElem?_eq_some_iff.mp hf).1
  refine va_put hx hb hts hin ty0 hty hnm2 hown hK hP hD hS a hw1 hcl j hj (hts _ hlink) (fun _ q => q) hfin (hty j hj) (zl_fit hfk hc2 hv1).1 (zl_fit hfk hc2 hv1).2 hlen hdg (fun H1 locs1 hP1 hD1 hS2 => ?_)
  have hn := hn ρ ν _ H1 locs1 ls kk ⟨hS1, hG, hH.set hw1 (show zr_C s ρ ν (.inl (d2, fs.set j v)) (.inr (d2, vs.set j xv)) from ⟨rfl, hvs.set hv1⟩), hL, hV, hP1, hD1, hS2⟩
  rw [hp1] at hn
  exact hn
theorem zo_putF {M : zr_M} {pcs : List Nat} {k pc idx ci j t N : Nat} {C : String} {T : u_T} {ty0 : Nat → FieldType} (hpc : pcs.getD k 0 = pc) (hp1 : pcs.getD (k + 1) 0 = pc + 3) (hdg : decode M.2.1 pc = .ok (.putfield idx, 3)) (hcl : zz_cl[ci]? = some (C, T, N)) (hin : ∀ w ∈ u_ws C T N, w ∈ zg_tbl) (hty : ∀ k, k < N → parseFieldDescriptor (T k).2.2.1 = some (ty0 k)) (hnm2 : ∀ a, a < N → ∀ b, b < N → a ≠ b → (T a).2.1 ≠ (T b).2.1) (hj : j < N) (hlink : Cond.fieldLink M.1 idx (T j).1 (T j).2.1 (T j).2.2.1 ∈ zg_tbl) (hfin : (T j).2.2.2 = true) (hfk : zr_fk t (ty0 j)) (hini : M.2.2.2.2 = "<init>") (hdecl : (T j).1 = M.1) : zr_Ok M pcs k (zz_putf ci j t) := by
  intro E d hX st
  obtain ⟨p, l, e, R, s, m, args, below, meth, c, D, A, H0, nL, ρ0, ν0, Qc⟩ := E
  obtain ⟨own, cc, nl, ret, nm⟩ := M
  obtain ⟨sk, la, h, g, nc, ns⟩ := st
  obtain ⟨hx, hb, hml, hown, hts, hK, hlk, hr, hnm, rfl, hA, hR1, hR2, hEx⟩ := hX
  match sk with
  | [] => exact trivial
  | [_] => exact trivial
  | _ :: .inl _ :: _ => exact trivial
  | _ :: .inr (.inr (.inl _)) :: _ => exact trivial
  | _ :: .inr (.inr (.inr _)) :: _ => exact trivial
  | _ :: .inr (.inl 0) :: _ => exact trivial
  | v :: .inr (.inl (a + 1)) :: sk =>
  show zr_res _ d pcs k _ (match zz_nth h a with
    | some (.inl (d, fs)) => bif Nat.beq d ci && zz_fit t v then (match zz_nth fs j with
      | some _ => .inl (sk, la, zz_set (.inl (ci, zz_set v fs j)) h a, g, nc, ns)
      | none => zz_fail) else zz_fail
    | _ => zz_fail)
  rw [zl_nth]
  match hc1 : h[a]? with
  | none => exact zr_fail
  | some (.inr _) => exact zr_fail
  | some (.inl (d2, fs)) =>
  refine zr_bif (fun hd => ?_) (fun _ => zr_fail)
  rw [Bool.and_eq_true] at hd
  obtain ⟨hd, hc2⟩ := hd
  have hd := Nat.eq_of_beq_eq_true hd
  subst hd
  rw [zl_nth]
  match hf : fs[j]? with
  | none => exact zr_fail
  | some vold =>
  simp only
  rw [zl_set, zl_set]
  rintro ⟨b1, b2, hn⟩
  refine ⟨b1, b2, fun ρ ν ws H locs ls kk hS => ?_⟩
  show W p l e R s m args below meth c H locs nc ns _ (F0 m (pcs.getD k 0) ls kk)
  rw [hpc]
  obtain ⟨hS1, hG, hH, hL, hV, hP, hD, hS⟩ := hS
  match kk, hV with
  | xv :: _ :: kk, ⟨hv1, ⟨q, hq, rfl⟩, hV⟩ =>
  obtain ⟨ew, hw1, hw2⟩ := hH.cell hc1 hq
  match ew, hw2 with
  | .inr (_, vs), ⟨rfl, hvs⟩ =>
  have hlen : j < vs.length := by rw [← hvs.len]; exact (List.getElem?_eq_some_iff.mp hf).1
  refine va_putF hx hb hts hin ty0 hty hnm2 hown hK hP hD hS a hw1 hcl j hj (hts _ hlink) (fun _ q => q) hfin (hnm.trans hini) hdecl (hty j hj) (zl_fit hfk hc2 hv1).1 (zl_fit hfk hc2 hv1).2 hlen hdg (fun H1 locs1 hP1 hD1 hS2 => ?_)
  have hn := hn ρ ν _ H1 locs1 ls kk ⟨hS1, hG, hH.set hw1 (show zr_C s ρ ν (.inl (d2, fs.set j v)) (.inr (d2, vs.set j xv)) from ⟨rfl, hvs.set hv1⟩), hL, hV, hP1, hD1, hS2⟩
  rw [hp1] at hn
  exact hn
