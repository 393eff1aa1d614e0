/-! LAWS OF ARRAYS, NEW CELLS, ENDS (written by wip/p1/genops4.py) -/
theorem zl_elb (d p j b : Nat) : (zz_el d p j).testBit b = ((decide (b < 64) && p.testBit (64 * j + b)) ^^ d.testBit b) := by
  show (((p >>> (64 * j)) % 2 ^ 64) ^^^ d).testBit b = _
  rw [Nat.testBit_xor, Nat.testBit_mod_two_pow, Nat.testBit_shiftRight]
theorem zl_el_lt {d : Nat} (hd : d < 18446744073709551616) (p j : Nat) : zz_el d p j < 2 ^ 64 := by
  show ((p >>> (64 * j)) % 2 ^ 64) ^^^ d < 2 ^ 64
  exact Nat.xor_lt_two_pow (Nat.mod_lt _ (Nat.two_pow_pos 64)) hd
theorem zn_up {d v : Nat} (hd : d < 18446744073709551616) (hv : v < 18446744073709551616) (p i j : Nat) : zz_el d (zz_up d p i v) j = if j = i then v else zz_el d p j := by
  have hX : (zz_el d p i) ^^^ v < 2 ^ 64 := Nat.xor_lt_two_pow (zl_el_lt hd p i) hv
  have hup : ∀ m, (zz_up d p i v).testBit m = (p.testBit m ^^ (decide (64 * i ≤ m) && (zz_el d p i ^^^ v).testBit (m - 64 * i))) := by
    intro m
    show (p ^^^ ((zz_el d p i ^^^ v) <<< (64 * i))).testBit m = _
    rw [Nat.testBit_xor, Nat.testBit_shiftLeft]
  refine Nat.eq_of_testBit_eq fun b => ?_
  rw [zl_elb, hup]
  have hdb : 64 ≤ b → d.testBit b = false := fun h => Nat.testBit_lt_two_pow (Nat.lt_of_lt_of_le hd (Nat.pow_le_pow_right (by decide) h : 2 ^ 64 ≤ 2 ^ b))
  have hvb : 64 ≤ b → v.testBit b = false := fun h => Nat.testBit_lt_two_pow (Nat.lt_of_lt_of_le hv (Nat.pow_le_pow_right (by decide) h : 2 ^ 64 ≤ 2 ^ b))
  by_cases hb : b < 64
  · by_cases hj : j = i
    · subst hj
      rw [if_pos rfl, show 64 * j + b - 64 * j = b by omega, Nat.testBit_xor, zl_elb]
      simp only [hb, decide_true, Bool.true_and, show 64 * j ≤ 64 * j + b by omega]
      cases p.testBit (64 * j + b) <;> cases d.testBit b <;> cases v.testBit b <;> rfl
    · rw [if_neg hj, zl_elb]
      rcases Nat.lt_or_gt_of_ne hj with h | h
      · have : ¬ 64 * i ≤ 64 * j + b := by omega
        simp [this]
      · have h3 : (zz_el d p i ^^^ v).testBit (64 * j + b - 64 * i) = false := Nat.testBit_lt_two_pow (Nat.lt_of_lt_of_le hX (Nat.pow_le_pow_right (by decide) (by omega)))
        rw [h3]
        simp
  · have hb2 : 64 ≤ b := by omega
    by_cases hj : j = i
    · rw [if_pos hj, hvb hb2, hdb hb2]
      simp [hb]
    · rw [if_neg hj, zl_elb, hdb hb2]
      simp [hb]
theorem zl_el0 (i : Nat) : zz_el 0 0 i = 0 := by
  show ((0 >>> (64 * i)) % 18446744073709551616) ^^^ 0 = 0
  simp
theorem zr_K1 {D : va_G} {s : State} (hK : va_K D zz_cl [] s) {cA : ClassId} {ty : FieldType} (h : zr_A s cA ty) : va_K D zz_cl [(cA, ty)] s := by
  refine ⟨hK.1, fun k q hq => ?_⟩
  cases k with
  | zero => cases hq; exact h
  | succ k => simp at hq
theorem zr_arr.k0 {ρ : List Nat} {n d p : Nat} {x : vp_A} (h : zr_arr ρ 0 n d p x) : ∃ f : Nat → Int32, x = (n, .inl f) ∧ ∀ i, i < n → f i = nI (zz_el d p i) := by
  rcases h with ⟨_, h⟩ | ⟨e, _⟩ | ⟨e, _⟩ | ⟨e, _⟩
  · exact h
  · exact absurd e (by decide)
  · exact absurd e (by decide)
  · exact absurd e (by decide)
theorem zr_arr.k1 {ρ : List Nat} {n d p : Nat} {x : vp_A} (h : zr_arr ρ 1 n d p x) : ∃ f : Nat → Int32, x = (n, .inl f) ∧ ∀ i, i < n → f i = nI (zz_el d p i) := by
  rcases h with ⟨e, _⟩ | ⟨_, h⟩ | ⟨e, _⟩ | ⟨e, _⟩
  · exact absurd e (by decide)
  · exact h
  · exact absurd e (by decide)
  · exact absurd e (by decide)
theorem zr_arr.k2 {ρ : List Nat} {n d p : Nat} {x : vp_A} (h : zr_arr ρ 2 n d p x) : ∃ f : Nat → Int64, x = (n, .inr (.inl f)) ∧ ∀ i, i < n → f i = lN (zz_el d p i) := by
  rcases h with ⟨e, _⟩ | ⟨e, _⟩ | ⟨_, h⟩ | ⟨e, _⟩
  · exact absurd e (by decide)
  · exact absurd e (by decide)
  · exact h
  · exact absurd e (by decide)
theorem zr_arr.k3 {ρ : List Nat} {n d p : Nat} {x : vp_A} (h : zr_arr ρ 3 n d p x) : ∃ f : Nat → Option Nat, x = (n, .inr (.inr (.inr (.inr f)))) ∧ ∀ i, i < n → zr_R ρ (zz_el d p i) (f i) := by
  rcases h with ⟨e, _⟩ | ⟨e, _⟩ | ⟨e, _⟩ | ⟨_, h⟩
  · exact absurd e (by decide)
  · exact absurd e (by decide)
  · exact absurd e (by decide)
  · exact h
theorem zr_wt {ρ : List Nat} {ν : List Int32} : ∀ {sk : List zz_V} {kk : List Value}, zr_Vs ρ ν sk kk → (kk.map fun v => v.category).sum = zz_wt sk
  | [], [], _ => rfl
  | a :: sk, v :: kk, h => by
    have ih := zr_wt h.2
    show v.category + (kk.map fun v => v.category).sum = (bif zz_isJ a then 2 else 1) + zz_wt sk
    rw [ih]
    cases hj : zz_isJ a with
    | true =>
      obtain ⟨x, rfl⟩ := zl_J hj h.1
      rfl
    | false => rw [zl_cat1 hj h.1]; rfl
theorem zl_R {ρ : List Nat} {ν : List Int32} {n : Nat} {o : Option Nat} (h : zr_R ρ n o) : zr_V ρ ν (.inr (.inl n)) (va_rf o) := by
  rcases h with ⟨rfl, rfl⟩ | ⟨a, q, rfl, hq, rfl⟩
  · rfl
  · exact ⟨q, hq, rfl⟩
theorem zl_01 {ρ : List Nat} {ν : List Int32} {a : zz_V} {v : Value} (h : zz_is01 a = true) (hv : zr_V ρ ν a v) : ∃ x : Int32, v = .int x ∧ narrow .boolean (.int x) = .int x := by
  match a, h, hv with
  | .inl n, h, hv =>
    have hn : n ≤ 1 := Nat.le_of_ble_eq_true h
    have : n = 0 ∨ n = 1 := by omega
    rcases this with rfl | rfl
    · exact ⟨_, hv, by decide⟩
    · exact ⟨_, hv, by decide⟩
theorem zo_iald {M : zr_M} {pcs : List Nat} {k pc : Nat} (hpc : pcs.getD k 0 = pc) (hp1 : pcs.getD (k + 1) 0 = pc + 1) (hdg : decode M.2.1 pc = .ok (.iaload, 1)) : zr_Ok M pcs k (zz_ald k 0) := by
  intro E d hX st
  obtain ⟨p, l, e, R, s, m, args, below, meth, c, D, A, H0, nL, ρ0, ν0, Qc⟩ := E
  obtain ⟨own, cc, nl, ret, nm⟩ := M
  obtain ⟨sk, la, h, g, nc, ns⟩ := st
  obtain ⟨hx, hb, hml, hown, hts, hK, hlk, hr, hnm, rfl, hA, hR1, hR2, hEx⟩ := hX
  match sk with
  | [] => exact trivial
  | [_] => exact trivial
  | _ :: .inl _ :: _ => exact trivial
  | _ :: .inr (.inr (.inl _)) :: _ => exact trivial
  | _ :: .inr (.inr (.inr _)) :: _ => exact trivial
  | iv :: .inr (.inl a) :: sk =>
  refine zr_ci (st := (iv :: .inr (.inl a) :: sk, la, h, g, nc, ns)) (fun i hi2 => ?_)
  cases a with
  | zero => exact zr_fail
  | succ a =>
  show zr_res _ d pcs k _ (match zz_nth h a with
    | some (.inr (kd2, n, d, p)) => bif Nat.beq 0 kd2 && Nat.ble (i + 1) n then .inl (zz_elv 0 (zz_el d p i) :: sk, la, h, g, nc, ns) else zz_fail
    | _ => zz_fail)
  rw [zl_nth]
  match hc1 : h[a]? with
  | none => exact zr_fail
  | some (.inl _) => exact zr_fail
  | some (.inr (kd2, n, dd, p2)) =>
  refine zr_bif (fun hd => ?_) (fun _ => zr_fail)
  rw [Bool.and_eq_true] at hd
  have hd1 := Nat.eq_of_beq_eq_true hd.1
  have hi3 : i < n := Nat.le_of_ble_eq_true hd.2
  subst hd1
  rintro ⟨b1, b2, hn⟩
  refine ⟨b1, b2, fun ρ ν ws H locs ls kk hS => ?_⟩
  show W p l e R s m args below meth c H locs nc ns _ (F0 m (pcs.getD k 0) ls kk)
  rw [hpc]
  obtain ⟨hS1, hG, hH, hL, hV, hP, hD, hS⟩ := hS
  match kk, hV with
  | _ :: _ :: kk, ⟨hi1, ⟨q, hq, rfl⟩, hV⟩ =>
  have ei := hi2 ρ ν _ hG hi1
  subst ei
  obtain ⟨ew, hw1, hw2⟩ := hH.cell hc1 hq
  match ew, hw2 with
  | .inl (cA, x), ⟨hA0, hA1, hA2⟩ =>
  obtain ⟨f, rfl, hf⟩ := hA2.k0
  have hn := hn ρ ν ws H locs ls (.int (nI (zz_el dd p2 i)) :: kk) ⟨hS1, hG, hH, hL, ⟨rfl, hV⟩, hP, hD, hS⟩
  rw [hp1] at hn
  refine va_iald hx hb (zr_K1 hK hA1) hP a 0 hw1 rfl (nI_in hi3 hA0.1) hdg ?_
  rw [nI_clamp (Nat.lt_trans hi3 hA0.1), hf i hi3]
  exact hn
theorem zo_zald {M : zr_M} {pcs : List Nat} {k pc : Nat} (hpc : pcs.getD k 0 = pc) (hp1 : pcs.getD (k + 1) 0 = pc + 1) (hdg : decode M.2.1 pc = .ok (.baload, 1)) : zr_Ok M pcs k (zz_ald k 1) := by
  intro E d hX st
  obtain ⟨p, l, e, R, s, m, args, below, meth, c, D, A, H0, nL, ρ0, ν0, Qc⟩ := E
  obtain ⟨own, cc, nl, ret, nm⟩ := M
  obtain ⟨sk, la, h, g, nc, ns⟩ := st
  obtain ⟨hx, hb, hml, hown, hts, hK, hlk, hr, hnm, rfl, hA, hR1, hR2, hEx⟩ := hX
  match sk with
  | [] => exact trivial
  | [_] => exact trivial
  | _ :: .inl _ :: _ => exact trivial
  | _ :: .inr (.inr (.inl _)) :: _ => exact trivial
  | _ :: .inr (.inr (.inr _)) :: _ => exact trivial
  | iv :: .inr (.inl a) :: sk =>
  refine zr_ci (st := (iv :: .inr (.inl a) :: sk, la, h, g, nc, ns)) (fun i hi2 => ?_)
  cases a with
  | zero => exact zr_fail
  | succ a =>
  show zr_res _ d pcs k _ (match zz_nth h a with
    | some (.inr (kd2, n, d, p)) => bif Nat.beq 1 kd2 && Nat.ble (i + 1) n then .inl (zz_elv 1 (zz_el d p i) :: sk, la, h, g, nc, ns) else zz_fail
    | _ => zz_fail)
  rw [zl_nth]
  match hc1 : h[a]? with
  | none => exact zr_fail
  | some (.inl _) => exact zr_fail
  | some (.inr (kd2, n, dd, p2)) =>
  refine zr_bif (fun hd => ?_) (fun _ => zr_fail)
  rw [Bool.and_eq_true] at hd
  have hd1 := Nat.eq_of_beq_eq_true hd.1
  have hi3 : i < n := Nat.le_of_ble_eq_true hd.2
  subst hd1
  rintro ⟨b1, b2, hn⟩
  refine ⟨b1, b2, fun ρ ν ws H locs ls kk hS => ?_⟩
  show W p l e R s m args below meth c H locs nc ns _ (F0 m (pcs.getD k 0) ls kk)
  rw [hpc]
  obtain ⟨hS1, hG, hH, hL, hV, hP, hD, hS⟩ := hS
  match kk, hV with
  | _ :: _ :: kk, ⟨hi1, ⟨q, hq, rfl⟩, hV⟩ =>
  have ei := hi2 ρ ν _ hG hi1
  subst ei
  obtain ⟨ew, hw1, hw2⟩ := hH.cell hc1 hq
  match ew, hw2 with
  | .inl (cA, x), ⟨hA0, hA1, hA2⟩ =>
  obtain ⟨f, rfl, hf⟩ := hA2.k1
  have hn := hn ρ ν ws H locs ls (.int (nI (zz_el dd p2 i)) :: kk) ⟨hS1, hG, hH, hL, ⟨rfl, hV⟩, hP, hD, hS⟩
  rw [hp1] at hn
  refine va_zald hx hb (zr_K1 hK hA1) hP a 0 hw1 rfl (nI_in hi3 hA0.1) hdg ?_
  rw [nI_clamp (Nat.lt_trans hi3 hA0.1), hf i hi3]
  exact hn
theorem zo_lald {M : zr_M} {pcs : List Nat} {k pc : Nat} (hpc : pcs.getD k 0 = pc) (hp1 : pcs.getD (k + 1) 0 = pc + 1) (hdg : decode M.2.1 pc = .ok (.laload, 1)) : zr_Ok M pcs k (zz_ald k 2) := by
  intro E d hX st
  obtain ⟨p, l, e, R, s, m, args, below, meth, c, D, A, H0, nL, ρ0, ν0, Qc⟩ := E
  obtain ⟨own, cc, nl, ret, nm⟩ := M
  obtain ⟨sk, la, h, g, nc, ns⟩ := st
  obtain ⟨hx, hb, hml, hown, hts, hK, hlk, hr, hnm, rfl, hA, hR1, hR2, hEx⟩ := hX
  match sk with
  | [] => exact trivial
  | [_] => exact trivial
  | _ :: .inl _ :: _ => exact trivial
  | _ :: .inr (.inr (.inl _)) :: _ => exact trivial
  | _ :: .inr (.inr (.inr _)) :: _ => exact trivial
  | iv :: .inr (.inl a) :: sk =>
  refine zr_ci (st := (iv :: .inr (.inl a) :: sk, la, h, g, nc, ns)) (fun i hi2 => ?_)
  cases a with
  | zero => exact zr_fail
  | succ a =>
  show zr_res _ d pcs k _ (match zz_nth h a with
    | some (.inr (kd2, n, d, p)) => bif Nat.beq 2 kd2 && Nat.ble (i + 1) n then .inl (zz_elv 2 (zz_el d p i) :: sk, la, h, g, nc, ns) else zz_fail
    | _ => zz_fail)
  rw [zl_nth]
  match hc1 : h[a]? with
  | none => exact zr_fail
  | some (.inl _) => exact zr_fail
  | some (.inr (kd2, n, dd, p2)) =>
  refine zr_bif (fun hd => ?_) (fun _ => zr_fail)
  rw [Bool.and_eq_true] at hd
  have hd1 := Nat.eq_of_beq_eq_true hd.1
  have hi3 : i < n := Nat.le_of_ble_eq_true hd.2
  subst hd1
  rintro ⟨b1, b2, hn⟩
  refine ⟨b1, b2, fun ρ ν ws H locs ls kk hS => ?_⟩
  show W p l e R s m args below meth c H locs nc ns _ (F0 m (pcs.getD k 0) ls kk)
  rw [hpc]
  obtain ⟨hS1, hG, hH, hL, hV, hP, hD, hS⟩ := hS
  match kk, hV with
  | _ :: _ :: kk, ⟨hi1, ⟨q, hq, rfl⟩, hV⟩ =>
  have ei := hi2 ρ ν _ hG hi1
  subst ei
  obtain ⟨ew, hw1, hw2⟩ := hH.cell hc1 hq
  match ew, hw2 with
  | .inl (cA, x), ⟨hA0, hA1, hA2⟩ =>
  obtain ⟨f, rfl, hf⟩ := hA2.k2
  have hn := hn ρ ν ws H locs ls (.long (lN (zz_el dd p2 i)) :: kk) ⟨hS1, hG, hH, hL, ⟨rfl, hV⟩, hP, hD, hS⟩
  rw [hp1] at hn
  refine va_lald hx hb (zr_K1 hK hA1) hP a 0 hw1 rfl (nI_in hi3 hA0.1) hdg ?_
  rw [nI_clamp (Nat.lt_trans hi3 hA0.1), hf i hi3]
  exact hn
theorem zo_aald {M : zr_M} {pcs : List Nat} {k pc : Nat} (hpc : pcs.getD k 0 = pc) (hp1 : pcs.getD (k + 1) 0 = pc + 1) (hdg : decode M.2.1 pc = .ok (.aaload, 1)) : zr_Ok M pcs k (zz_ald k 3) := by
  intro E d hX st
  obtain ⟨p, l, e, R, s, m, args, below, meth, c, D, A, H0, nL, ρ0, ν0, Qc⟩ := E
  obtain ⟨own, cc, nl, ret, nm⟩ := M
  obtain ⟨sk, la, h, g, nc, ns⟩ := st
  obtain ⟨hx, hb, hml, hown, hts, hK, hlk, hr, hnm, rfl, hA, hR1, hR2, hEx⟩ := hX
  match sk with
  | [] => exact trivial
  | [_] => exact trivial
  | _ :: .inl _ :: _ => exact trivial
  | _ :: .inr (.inr (.inl _)) :: _ => exact trivial
  | _ :: .inr (.inr (.inr _)) :: _ => exact trivial
  | iv :: .inr (.inl a) :: sk =>
  refine zr_ci (st := (iv :: .inr (.inl a) :: sk, la, h, g, nc, ns)) (fun i hi2 => ?_)
  cases a with
  | zero => exact zr_fail
  | succ a =>
  show zr_res _ d pcs k _ (match zz_nth h a with
    | some (.inr (kd2, n, d, p)) => bif Nat.beq 3 kd2 && Nat.ble (i + 1) n then .inl (zz_elv 3 (zz_el d p i) :: sk, la, h, g, nc, ns) else zz_fail
    | _ => zz_fail)
  rw [zl_nth]
  match hc1 : h[a]? with
  | none => exact zr_fail
  | some (.inl _) => exact zr_fail
  | some (.inr (kd2, n, dd, p2)) =>
  refine zr_bif (fun hd => ?_) (fun _ => zr_fail)
  rw [Bool.and_eq_true] at hd
  have hd1 := Nat.eq_of_beq_eq_true hd.1
  have hi3 : i < n := Nat.le_of_ble_eq_true hd.2
  subst hd1
  rintro ⟨b1, b2, hn⟩
  refine ⟨b1, b2, fun ρ ν ws H locs ls kk hS => ?_⟩
  show W p l e R s m args below meth c H locs nc ns _ (F0 m (pcs.getD k 0) ls kk)
  rw [hpc]
  obtain ⟨hS1, hG, hH, hL, hV, hP, hD, hS⟩ := hS
  match kk, hV with
  | _ :: _ :: kk, ⟨hi1, ⟨q, hq, rfl⟩, hV⟩ =>
  have ei := hi2 ρ ν _ hG hi1
  subst ei
  obtain ⟨ew, hw1, hw2⟩ := hH.cell hc1 hq
  match ew, hw2 with
  | .inl (cA, x), ⟨hA0, hA1, hA2⟩ =>
  obtain ⟨f, rfl, hf⟩ := hA2.k3
  have hn := hn ρ ν ws H locs ls (va_rf (f i) :: kk) ⟨hS1, hG, hH, hL, ⟨zl_R (hf i hi3), hV⟩, hP, hD, hS⟩
  rw [hp1] at hn
  refine va_aldq hx hb (zr_K1 hK hA1) hP a 0 hw1 rfl (nI_in hi3 hA0.1) hdg ?_
  rw [nI_clamp (Nat.lt_trans hi3 hA0.1)]
  exact hn
theorem zo_iast {M : zr_M} {pcs : List Nat} {k pc : Nat} (hpc : pcs.getD k 0 = pc) (hp1 : pcs.getD (k + 1) 0 = pc + 1) (hdg : decode M.2.1 pc = .ok (.iastore, 1)) : zr_Ok M pcs k (zz_ast k 0) := by
  intro E d hX st
  obtain ⟨p, l, e, R, s, m, args, below, meth, c, D, A, H0, nL, ρ0, ν0, Qc⟩ := E
  obtain ⟨own, cc, nl, ret, nm⟩ := M
  obtain ⟨sk, la, h, g, nc, ns⟩ := st
  obtain ⟨hx, hb, hml, hown, hts, hK, hlk, hr, hnm, rfl, hA, hR1, hR2, hEx⟩ := hX
  match sk with
  | [] => exact trivial
  | [_] => exact trivial
  | [_, _] => exact trivial
  | _ :: _ :: .inl _ :: _ => exact trivial
  | _ :: _ :: .inr (.inr (.inl _)) :: _ => exact trivial
  | _ :: _ :: .inr (.inr (.inr _)) :: _ => exact trivial
  | vv :: iv :: .inr (.inl a) :: sk =>
  refine zr_ci (st := (vv :: iv :: .inr (.inl a) :: sk, la, h, g, nc, ns)) (fun i hi2 => ?_)
  refine zr_ci (st := (vv :: iv :: .inr (.inl a) :: sk, la, h, g, nc, ns)) (fun x hx2 => ?_)
  refine zr_bif (fun hxb => ?_) (fun _ => zr_fail)
  have hxb : x < 18446744073709551616 := by have := Nat.le_of_ble_eq_true hxb; omega
  cases a with
  | zero => exact zr_fail
  | succ a =>
  show zr_res _ d pcs k _ (match zz_nth h a with
    | some (.inr (kd2, n, d, p)) => bif Nat.beq 0 kd2 && Nat.ble (i + 1) n then .inl (sk, la, zz_set (.inr (0, n, d, zz_up d p i x)) h a, g, nc, ns) else zz_fail
    | _ => zz_fail)
  rw [zl_nth]
  match hc1 : h[a]? with
  | none => exact zr_fail
  | some (.inl _) => exact zr_fail
  | some (.inr (kd2, n, dd, p2)) =>
  refine zr_bif (fun hd => ?_) (fun _ => zr_fail)
  rw [Bool.and_eq_true] at hd
  have hd1 := Nat.eq_of_beq_eq_true hd.1
  have hi3 : i < n := Nat.le_of_ble_eq_true hd.2
  subst hd1
  rw [zl_set]
  rintro ⟨b1, b2, hn⟩
  refine ⟨b1, b2, fun ρ ν ws H locs ls kk hS => ?_⟩
  show W p l e R s m args below meth c H locs nc ns _ (F0 m (pcs.getD k 0) ls kk)
  rw [hpc]
  obtain ⟨hS1, hG, hH, hL, hV, hP, hD, hS⟩ := hS
  match kk, hV with
  | vx :: _ :: _ :: kk, ⟨hx1, hi1, ⟨q, hq, rfl⟩, hV⟩ =>
  have ei := hi2 ρ ν _ hG hi1
  subst ei
  have ex := hx2 ρ ν _ hG hx1
  subst ex
  obtain ⟨ew, hw1, hw2⟩ := hH.cell hc1 hq
  match ew, hw2 with
  | .inl (cA, x2), ⟨hA0, hA1, hA2⟩ =>
  obtain ⟨f, rfl, hf⟩ := hA2.k0
  have hcl : (nI i).toNatClampNeg = i := nI_clamp (Nat.lt_trans hi3 hA0.1)
  have hup : ∀ j, j < n → (upd f i (nI x)) j = nI (zz_el dd (zz_up dd p2 i x) j) := by
    intro j hj
    rw [zn_up hA0.2 hxb]
    show (if j = i then _ else _) = _
    by_cases hji : j = i
    · rw [if_pos hji, if_pos hji]
    · rw [if_neg hji, if_neg hji]
      exact hf j hj
  refine va_iast hx hb (zr_K1 hK hA1) hP hD hS a 0 hw1 rfl (nI_in hi3 hA0.1) hdg (fun H1 locs1 hP1 hD1 hS2 => ?_)
  rw [hcl] at hP1 hD1
  have hn := hn ρ ν _ H1 locs1 ls kk ⟨hS1, hG, hH.set hw1 (show zr_C s ρ ν (.inr (0, n, dd, zz_up dd p2 i x)) (.inl (cA, n, .inl (upd f i (nI x)))) from ⟨hA0, hA1, Or.inl ⟨rfl, _, rfl, hup⟩⟩), hL, hV, hP1, hD1, hS2⟩
  rw [hp1] at hn
  exact hn
theorem zo_zast {M : zr_M} {pcs : List Nat} {k pc : Nat} (hpc : pcs.getD k 0 = pc) (hp1 : pcs.getD (k + 1) 0 = pc + 1) (hdg : decode M.2.1 pc = .ok (.bastore, 1)) : zr_Ok M pcs k (zz_ast k 1) := by
  intro E d hX st
  obtain ⟨p, l, e, R, s, m, args, below, meth, c, D, A, H0, nL, ρ0, ν0, Qc⟩ := E
  obtain ⟨own, cc, nl, ret, nm⟩ := M
  obtain ⟨sk, la, h, g, nc, ns⟩ := st
  obtain ⟨hx, hb, hml, hown, hts, hK, hlk, hr, hnm, rfl, hA, hR1, hR2, hEx⟩ := hX
  match sk with
  | [] => exact trivial
  | [_] => exact trivial
  | [_, _] => exact trivial
  | _ :: _ :: .inl _ :: _ => exact trivial
  | _ :: _ :: .inr (.inr (.inl _)) :: _ => exact trivial
  | _ :: _ :: .inr (.inr (.inr _)) :: _ => exact trivial
  | vv :: iv :: .inr (.inl a) :: sk =>
  refine zr_ci (st := (vv :: iv :: .inr (.inl a) :: sk, la, h, g, nc, ns)) (fun i hi2 => ?_)
  refine zr_ci (st := (vv :: iv :: .inr (.inl a) :: sk, la, h, g, nc, ns)) (fun x hx2 => ?_)
  refine zr_bif (fun hxb => ?_) (fun _ => zr_fail)
  have hx01 : x ≤ 1 := Nat.le_of_ble_eq_true hxb
  have hxb : x < 18446744073709551616 := by omega
  cases a with
  | zero => exact zr_fail
  | succ a =>
  show zr_res _ d pcs k _ (match zz_nth h a with
    | some (.inr (kd2, n, d, p)) => bif Nat.beq 1 kd2 && Nat.ble (i + 1) n then .inl (sk, la, zz_set (.inr (1, n, d, zz_up d p i x)) h a, g, nc, ns) else zz_fail
    | _ => zz_fail)
  rw [zl_nth]
  match hc1 : h[a]? with
  | none => exact zr_fail
  | some (.inl _) => exact zr_fail
  | some (.inr (kd2, n, dd, p2)) =>
  refine zr_bif (fun hd => ?_) (fun _ => zr_fail)
  rw [Bool.and_eq_true] at hd
  have hd1 := Nat.eq_of_beq_eq_true hd.1
  have hi3 : i < n := Nat.le_of_ble_eq_true hd.2
  subst hd1
  rw [zl_set]
  rintro ⟨b1, b2, hn⟩
  refine ⟨b1, b2, fun ρ ν ws H locs ls kk hS => ?_⟩
  show W p l e R s m args below meth c H locs nc ns _ (F0 m (pcs.getD k 0) ls kk)
  rw [hpc]
  obtain ⟨hS1, hG, hH, hL, hV, hP, hD, hS⟩ := hS
  match kk, hV with
  | vx :: _ :: _ :: kk, ⟨hx1, hi1, ⟨q, hq, rfl⟩, hV⟩ =>
  have ei := hi2 ρ ν _ hG hi1
  subst ei
  have ex := hx2 ρ ν _ hG hx1
  subst ex
  obtain ⟨ew, hw1, hw2⟩ := hH.cell hc1 hq
  match ew, hw2 with
  | .inl (cA, x2), ⟨hA0, hA1, hA2⟩ =>
  obtain ⟨f, rfl, hf⟩ := hA2.k1
  have hcl : (nI i).toNatClampNeg = i := nI_clamp (Nat.lt_trans hi3 hA0.1)
  have hup : ∀ j, j < n → (upd f i (vp_nar .boolean (nI x))) j = nI (zz_el dd (zz_up dd p2 i x) j) := by
    intro j hj
    have hnar : vp_nar .boolean (nI x) = nI x := by
      have : x = 0 ∨ x = 1 := by omega
      rcases this with rfl | rfl <;> decide
    rw [zn_up hA0.2 hxb]
    show (if j = i then _ else _) = _
    by_cases hji : j = i
    · rw [if_pos hji, if_pos hji]; exact hnar
    · rw [if_neg hji, if_neg hji]
      exact hf j hj
  refine va_zast hx hb (zr_K1 hK hA1) hP hD hS a 0 hw1 rfl (nI_in hi3 hA0.1) hdg (fun H1 locs1 hP1 hD1 hS2 => ?_)
  rw [hcl] at hP1 hD1
  have hn := hn ρ ν _ H1 locs1 ls kk ⟨hS1, hG, hH.set hw1 (show zr_C s ρ ν (.inr (1, n, dd, zz_up dd p2 i x)) (.inl (cA, n, .inl (upd f i (vp_nar .boolean (nI x))))) from ⟨hA0, hA1, Or.inr (Or.inl ⟨rfl, _, rfl, hup⟩)⟩), hL, hV, hP1, hD1, hS2⟩
  rw [hp1] at hn
  exact hn
theorem zo_last {M : zr_M} {pcs : List Nat} {k pc : Nat} (hpc : pcs.getD k 0 = pc) (hp1 : pcs.getD (k + 1) 0 = pc + 1) (hdg : decode M.2.1 pc = .ok (.lastore, 1)) : zr_Ok M pcs k (zz_ast k 2) := by
  intro E d hX st
  obtain ⟨p, l, e, R, s, m, args, below, meth, c, D, A, H0, nL, ρ0, ν0, Qc⟩ := E
  obtain ⟨own, cc, nl, ret, nm⟩ := M
  obtain ⟨sk, la, h, g, nc, ns⟩ := st
  obtain ⟨hx, hb, hml, hown, hts, hK, hlk, hr, hnm, rfl, hA, hR1, hR2, hEx⟩ := hX
  match sk with
  | [] => exact trivial
  | [_] => exact trivial
  | [_, _] => exact trivial
  | _ :: _ :: .inl _ :: _ => exact trivial
  | _ :: _ :: .inr (.inr (.inl _)) :: _ => exact trivial
  | _ :: _ :: .inr (.inr (.inr _)) :: _ => exact trivial
  | vv :: iv :: .inr (.inl a) :: sk =>
  refine zr_ci (st := (vv :: iv :: .inr (.inl a) :: sk, la, h, g, nc, ns)) (fun i hi2 => ?_)
  match vv with
  | .inl _ => exact zr_fail
  | .inr (.inl _) => exact zr_fail
  | .inr (.inr (.inr _)) => exact zr_fail
  | .inr (.inr (.inl x)) =>
  refine zr_bif (fun hxb => ?_) (fun _ => zr_fail)
  have hxb : x < 18446744073709551616 := by have := Nat.le_of_ble_eq_true hxb; omega
  cases a with
  | zero => exact zr_fail
  | succ a =>
  show zr_res _ d pcs k _ (match zz_nth h a with
    | some (.inr (kd2, n, d, p)) => bif Nat.beq 2 kd2 && Nat.ble (i + 1) n then .inl (sk, la, zz_set (.inr (2, n, d, zz_up d p i x)) h a, g, nc, ns) else zz_fail
    | _ => zz_fail)
  rw [zl_nth]
  match hc1 : h[a]? with
  | none => exact zr_fail
  | some (.inl _) => exact zr_fail
  | some (.inr (kd2, n, dd, p2)) =>
  refine zr_bif (fun hd => ?_) (fun _ => zr_fail)
  rw [Bool.and_eq_true] at hd
  have hd1 := Nat.eq_of_beq_eq_true hd.1
  have hi3 : i < n := Nat.le_of_ble_eq_true hd.2
  subst hd1
  rw [zl_set]
  rintro ⟨b1, b2, hn⟩
  refine ⟨b1, b2, fun ρ ν ws H locs ls kk hS => ?_⟩
  show W p l e R s m args below meth c H locs nc ns _ (F0 m (pcs.getD k 0) ls kk)
  rw [hpc]
  obtain ⟨hS1, hG, hH, hL, hV, hP, hD, hS⟩ := hS
  match kk, hV with
  | vx :: _ :: _ :: kk, ⟨hx1, hi1, ⟨q, hq, rfl⟩, hV⟩ =>
  have ei := hi2 ρ ν _ hG hi1
  subst ei
  have ex : vx = .long (lN x) := hx1
  subst ex
  obtain ⟨ew, hw1, hw2⟩ := hH.cell hc1 hq
  match ew, hw2 with
  | .inl (cA, x2), ⟨hA0, hA1, hA2⟩ =>
  obtain ⟨f, rfl, hf⟩ := hA2.k2
  have hcl : (nI i).toNatClampNeg = i := nI_clamp (Nat.lt_trans hi3 hA0.1)
  have hup : ∀ j, j < n → (vp_updL f i (lN x)) j = lN (zz_el dd (zz_up dd p2 i x) j) := by
    intro j hj
    rw [zn_up hA0.2 hxb]
    show (if j = i then _ else _) = _
    by_cases hji : j = i
    · rw [if_pos hji, if_pos hji]
    · rw [if_neg hji, if_neg hji]
      exact hf j hj
  refine va_last hx hb (zr_K1 hK hA1) hP hD hS a 0 hw1 rfl (nI_in hi3 hA0.1) hdg (fun H1 locs1 hP1 hD1 hS2 => ?_)
  rw [hcl] at hP1 hD1
  have hn := hn ρ ν _ H1 locs1 ls kk ⟨hS1, hG, hH.set hw1 (show zr_C s ρ ν (.inr (2, n, dd, zz_up dd p2 i x)) (.inl (cA, n, .inr (.inl (vp_updL f i (lN x))))) from ⟨hA0, hA1, Or.inr (Or.inr (Or.inl ⟨rfl, _, rfl, hup⟩))⟩), hL, hV, hP1, hD1, hS2⟩
  rw [hp1] at hn
  exact hn
theorem zo_aast {M : zr_M} {pcs : List Nat} {k pc : Nat} (hpc : pcs.getD k 0 = pc) (hp1 : pcs.getD (k + 1) 0 = pc + 1) (hdg : decode M.2.1 pc = .ok (.aastore, 1)) : zr_Ok M pcs k (zz_aast 0) := by
  intro E d hX st
  obtain ⟨p, l, e, R, s, m, args, below, meth, c, D, A, H0, nL, ρ0, ν0, Qc⟩ := E
  obtain ⟨own, cc, nl, ret, nm⟩ := M
  obtain ⟨sk, la, h, g, nc, ns⟩ := st
  obtain ⟨hx, hb, hml, hown, hts, hK, hlk, hr, hnm, rfl, hA, hR1, hR2, hEx⟩ := hX
  match sk with
  | [] => exact trivial
  | [v] => rcases v with v | v | v | v <;> exact trivial
  | [v, w] => rcases v with v | v | v | v <;> rcases w with w | w | w | w <;> exact trivial
  | .inl _ :: _ :: _ :: _ => exact trivial
  | .inr (.inr (.inl _)) :: _ :: _ :: _ => exact trivial
  | .inr (.inr (.inr _)) :: _ :: _ :: _ => exact trivial
  | .inr (.inl _) :: .inr (.inl _) :: _ :: _ => exact trivial
  | .inr (.inl _) :: .inr (.inr (.inl _)) :: _ :: _ => exact trivial
  | .inr (.inl _) :: .inr (.inr (.inr _)) :: _ :: _ => exact trivial
  | .inr (.inl _) :: .inl _ :: .inl _ :: _ => exact trivial
  | .inr (.inl _) :: .inl _ :: .inr (.inr (.inl _)) :: _ => exact trivial
  | .inr (.inl _) :: .inl _ :: .inr (.inr (.inr _)) :: _ => exact trivial
  | .inr (.inl v) :: .inl i :: .inr (.inl a) :: sk =>
  cases a with
  | zero => exact zr_fail
  | succ a =>
  cases v with
  | zero => exact zr_fail
  | succ v =>
  show zr_res _ d pcs k _ (match zz_nth h a, zz_nth h v with
    | some (.inr (kd2, n, d, p)), some (.inl (c2, _)) => bif Nat.beq 3 kd2 && (Nat.ble (i + 1) n && (Nat.beq 0 c2 && Nat.ble (v + 1) 4294967295)) then .inl (sk, la, zz_set (.inr (3, n, d, zz_up d p i (v + 1))) h a, g, nc, ns) else zz_fail
    | _, _ => zz_fail)
  rw [zl_nth, zl_nth]
  match hc1 : h[a]?, hc2 : h[v]? with
  | none, _ => exact zr_fail
  | some (.inl _), _ => exact zr_fail
  | some (.inr (_, _, _, _)), none => exact zr_fail
  | some (.inr (_, _, _, _)), some (.inr _) => exact zr_fail
  | some (.inr (kd2, n, dd, p2)), some (.inl (c2, fs)) =>
  refine zr_bif (fun hd => ?_) (fun _ => zr_fail)
  rw [Bool.and_eq_true, Bool.and_eq_true, Bool.and_eq_true] at hd
  have hd1 := Nat.eq_of_beq_eq_true hd.1
  have hi3 : i < n := Nat.le_of_ble_eq_true hd.2.1
  have hd2 := Nat.eq_of_beq_eq_true hd.2.2.1
  have hxb : v + 1 < 18446744073709551616 := by have := Nat.le_of_ble_eq_true hd.2.2.2; omega
  subst hd1
  subst hd2
  rw [zl_set]
  rintro ⟨b1, b2, hn⟩
  refine ⟨b1, b2, fun ρ ν ws H locs ls kk hS => ?_⟩
  show W p l e R s m args below meth c H locs nc ns _ (F0 m (pcs.getD k 0) ls kk)
  rw [hpc]
  obtain ⟨hS1, hG, hH, hL, hV, hP, hD, hS⟩ := hS
  match kk, hV with
  | _ :: _ :: _ :: kk, ⟨⟨qv, hqv, rfl⟩, rfl, ⟨q, hq, rfl⟩, hV⟩ =>
  obtain ⟨ew, hw1, hw2⟩ := hH.cell hc1 hq
  obtain ⟨ev, hv1, hv2⟩ := hH.cell hc2 hqv
  match ew, hw2, ev, hv2 with
  | .inl (cA, x2), ⟨hA0, hA1, hA2⟩, .inr (_, vs), ⟨rfl, hvs⟩ =>
  obtain ⟨f, rfl, hf⟩ := hA2.k3
  have hcl : (nI i).toNatClampNeg = i := nI_clamp (Nat.lt_trans hi3 hA0.1)
  have hup : ∀ j, j < n → zr_R ρ (zz_el dd (zz_up dd p2 i (v + 1)) j) (va_up f i (some qv) j) := by
    intro j hj
    rw [zn_up hA0.2 hxb]
    show zr_R ρ (if j = i then _ else _) (if j = i then _ else _)
    by_cases hji : j = i
    · rw [if_pos hji, if_pos hji]
      exact Or.inr ⟨v, qv, rfl, hqv, rfl⟩
    · rw [if_neg hji, if_neg hji]
      exact hf j hj
  refine va_astq (r := (RX0, TX0, 12)) hx hb (zr_K1 hK hA1) hP hD hS a 0 v 0 hw1 rfl hv1 rfl (nI_in hi3 hA0.1) hdg (fun H1 locs1 hP1 hD1 hS2 => ?_)
  rw [hcl] at hP1 hD1
  have hn := hn ρ ν _ H1 locs1 ls kk ⟨hS1, hG, hH.set hw1 (show zr_C s ρ ν (.inr (3, n, dd, zz_up dd p2 i (v + 1))) (.inl (cA, n, .inr (.inr (.inr (.inr (va_up f i (some qv))))))) from ⟨hA0, hA1, Or.inr (Or.inr (Or.inr ⟨rfl, _, rfl, hup⟩))⟩), hL, hV, hP1, hD1, hS2⟩
  rw [hp1] at hn
  exact hn
theorem zo_alen {M : zr_M} {pcs : List Nat} {k pc : Nat} (hpc : pcs.getD k 0 = pc) (hp1 : pcs.getD (k + 1) 0 = pc + 1) (hdg : decode M.2.1 pc = .ok (.arraylength, 1)) : zr_Ok M pcs k (zz_alen) := by
  intro E d hX st
  obtain ⟨p, l, e, R, s, m, args, below, meth, c, D, A, H0, nL, ρ0, ν0, Qc⟩ := E
  obtain ⟨own, cc, nl, ret, nm⟩ := M
  obtain ⟨sk, la, h, g, nc, ns⟩ := st
  obtain ⟨hx, hb, hml, hown, hts, hK, hlk, hr, hnm, rfl, hA, hR1, hR2, hEx⟩ := hX
  match sk with
  | [] => exact trivial
  | .inl _ :: _ => exact trivial
  | .inr (.inr (.inl _)) :: _ => exact trivial
  | .inr (.inr (.inr _)) :: _ => exact trivial
  | .inr (.inl 0) :: _ => exact trivial
  | .inr (.inl (a + 1)) :: sk =>
  show zr_res _ d pcs k _ (match zz_nth h a with
    | some (.inr (_, n, _, _)) => .inl (.inl n :: sk, la, h, g, nc, ns)
    | _ => zz_fail)
  rw [zl_nth]
  match hc1 : h[a]? with
  | none => exact zr_fail
  | some (.inl _) => exact zr_fail
  | some (.inr (kd2, n, dd, p2)) =>
  rintro ⟨b1, b2, hn⟩
  refine ⟨b1, b2, fun ρ ν ws H locs ls kk hS => ?_⟩
  show W p l e R s m args below meth c H locs nc ns _ (F0 m (pcs.getD k 0) ls kk)
  rw [hpc]
  obtain ⟨hS1, hG, hH, hL, hV, hP, hD, hS⟩ := hS
  match kk, hV with
  | _ :: kk, ⟨⟨q, hq, rfl⟩, hV⟩ =>
  obtain ⟨ew, hw1, hw2⟩ := hH.cell hc1 hq
  match ew, hw2 with
  | .inl (cA, x), ⟨hA0, hA1, hA2⟩ =>
  have hx1 : x.1 = n := by
    rcases hA2 with ⟨_, f, rfl, _⟩ | ⟨_, f, rfl, _⟩ | ⟨_, f, rfl, _⟩ | ⟨_, f, rfl, _⟩ <;> rfl
  have hn := hn ρ ν ws H locs ls (.int (nI n) :: kk) ⟨hS1, hG, hH, hL, ⟨rfl, hV⟩, hP, hD, hS⟩
  rw [hp1] at hn
  exact va_alen hx hb (zr_K1 hK hA1) hP a 0 hw1 rfl (by rw [hx1]; rfl) hdg hn
theorem zo_newi {M : zr_M} {pcs : List Nat} {k pc : Nat} (hpc : pcs.getD k 0 = pc) (hp1 : pcs.getD (k + 1) 0 = pc + 2) (hdg : decode M.2.1 pc = .ok (.newarray .int, 2)) (hw : Cond.arrayClass .int ∈ zg_tbl) : zr_Ok M pcs k (zz_newa 0) := by
  intro E d hX st
  obtain ⟨p, l, e, R, s, m, args, below, meth, c, D, A, H0, nL, ρ0, ν0, Qc⟩ := E
  obtain ⟨own, cc, nl, ret, nm⟩ := M
  obtain ⟨sk, la, h, g, nc, ns⟩ := st
  obtain ⟨hx, hb, hml, hown, hts, hK, hlk, hr, hnm, rfl, hA, hR1, hR2, hEx⟩ := hX
  match sk with
  | [] => exact trivial
  | .inr (.inl _) :: _ => exact trivial
  | .inr (.inr (.inl _)) :: _ => exact trivial
  | .inr (.inr (.inr _)) :: _ => exact trivial
  | .inl n :: sk =>
  refine zr_bif (fun hb3 => ?_) (fun _ => zr_fail)
  have hb3 := Nat.le_of_ble_eq_true hb3
  have hn31 : n < 2 ^ 31 := by omega
  rintro ⟨b1, b2, hn⟩
  have b1 : nc + 1 ≤ R.cells := b1
  have b2 : ns + n ≤ R.slots := b2
  refine ⟨Nat.le_of_succ_le b1, Nat.le_trans (Nat.le_add_right _ _) b2, fun ρ ν ws H locs ls kk hS => ?_⟩
  show W p l e R s m args below meth c H locs nc ns _ (F0 m (pcs.getD k 0) ls kk)
  rw [hpc]
  obtain ⟨hS1, hG, hH, hL, hV, hP, hD, hS⟩ := hS
  match kk, hV with
  | _ :: kk, ⟨rfl, hV⟩ =>
  refine va_newa (atype := .int) (ty := .int) (N' := n) (a0 := (n, .inl (fun _ => 0))) hx hb (hts _ hw) rfl hK hP hD hS hA (fun _ => rfl) (nI_pos hn31) (nI_clamp hn31) (by show n * 4 ≤ 536870912; omega) b1 b2 hdg (fun q cA H1 hK1 hP1 hD1 hS2 => ?_)
  have hA1 : zr_A s cA .int := hK1.2 0 (cA, .int) rfl
  have hn := hn (ρ ++ [q]) ν _ H1 locs ls (.ref q :: kk) ⟨⟨hS1.1.trans (List.prefix_append _ _), hS1.2⟩, hG, hH.push (show zr_C s (ρ ++ [q]) ν (.inr (0, n, 0, 0)) (.inl (cA, n, .inl (fun _ => 0))) from ⟨⟨by omega, by omega⟩, hA1, Or.inl ⟨rfl, _, rfl, fun i _ => by rw [zl_el0]; rfl⟩⟩), hL.mono (List.prefix_append _ _) (List.prefix_refl _), ⟨⟨q, by rw [← hH.1, hH.2.1]; simp, rfl⟩, hV.mono (List.prefix_append _ _) (List.prefix_refl _)⟩, hP1, hD1, hS2⟩
  rw [hp1] at hn
  exact hn
theorem zo_newz {M : zr_M} {pcs : List Nat} {k pc : Nat} (hpc : pcs.getD k 0 = pc) (hp1 : pcs.getD (k + 1) 0 = pc + 2) (hdg : decode M.2.1 pc = .ok (.newarray .boolean, 2)) (hw : Cond.arrayClass .boolean ∈ zg_tbl) : zr_Ok M pcs k (zz_newa 1) := by
  intro E d hX st
  obtain ⟨p, l, e, R, s, m, args, below, meth, c, D, A, H0, nL, ρ0, ν0, Qc⟩ := E
  obtain ⟨own, cc, nl, ret, nm⟩ := M
  obtain ⟨sk, la, h, g, nc, ns⟩ := st
  obtain ⟨hx, hb, hml, hown, hts, hK, hlk, hr, hnm, rfl, hA, hR1, hR2, hEx⟩ := hX
  match sk with
  | [] => exact trivial
  | .inr (.inl _) :: _ => exact trivial
  | .inr (.inr (.inl _)) :: _ => exact trivial
  | .inr (.inr (.inr _)) :: _ => exact trivial
  | .inl n :: sk =>
  refine zr_bif (fun hb3 => ?_) (fun _ => zr_fail)
  have hb3 := Nat.le_of_ble_eq_true hb3
  have hn31 : n < 2 ^ 31 := by omega
  rintro ⟨b1, b2, hn⟩
  have b1 : nc + 1 ≤ R.cells := b1
  have b2 : ns + n ≤ R.slots := b2
  refine ⟨Nat.le_of_succ_le b1, Nat.le_trans (Nat.le_add_right _ _) b2, fun ρ ν ws H locs ls kk hS => ?_⟩
  show W p l e R s m args below meth c H locs nc ns _ (F0 m (pcs.getD k 0) ls kk)
  rw [hpc]
  obtain ⟨hS1, hG, hH, hL, hV, hP, hD, hS⟩ := hS
  match kk, hV with
  | _ :: kk, ⟨rfl, hV⟩ =>
  refine va_newa (atype := .boolean) (ty := .boolean) (N' := n) (a0 := (n, .inl (fun _ => 0))) hx hb (hts _ hw) rfl hK hP hD hS hA (fun _ => rfl) (nI_pos hn31) (nI_clamp hn31) (by show n * 1 ≤ 536870912; omega) b1 b2 hdg (fun q cA H1 hK1 hP1 hD1 hS2 => ?_)
  have hA1 : zr_A s cA .boolean := hK1.2 0 (cA, .boolean) rfl
  have hn := hn (ρ ++ [q]) ν _ H1 locs ls (.ref q :: kk) ⟨⟨hS1.1.trans (List.prefix_append _ _), hS1.2⟩, hG, hH.push (show zr_C s (ρ ++ [q]) ν (.inr (1, n, 0, 0)) (.inl (cA, n, .inl (fun _ => 0))) from ⟨⟨by omega, by omega⟩, hA1, Or.inr (Or.inl ⟨rfl, _, rfl, fun i _ => by rw [zl_el0]; rfl⟩)⟩), hL.mono (List.prefix_append _ _) (List.prefix_refl _), ⟨⟨q, by rw [← hH.1, hH.2.1]; simp, rfl⟩, hV.mono (List.prefix_append _ _) (List.prefix_refl _)⟩, hP1, hD1, hS2⟩
  rw [hp1] at hn
  exact hn
theorem zo_newj {M : zr_M} {pcs : List Nat} {k pc : Nat} (hpc : pcs.getD k 0 = pc) (hp1 : pcs.getD (k + 1) 0 = pc + 2) (hdg : decode M.2.1 pc = .ok (.newarray .long, 2)) (hw : Cond.arrayClass .long ∈ zg_tbl) : zr_Ok M pcs k (zz_newa 2) := by
  intro E d hX st
  obtain ⟨p, l, e, R, s, m, args, below, meth, c, D, A, H0, nL, ρ0, ν0, Qc⟩ := E
  obtain ⟨own, cc, nl, ret, nm⟩ := M
  obtain ⟨sk, la, h, g, nc, ns⟩ := st
  obtain ⟨hx, hb, hml, hown, hts, hK, hlk, hr, hnm, rfl, hA, hR1, hR2, hEx⟩ := hX
  match sk with
  | [] => exact trivial
  | .inr (.inl _) :: _ => exact trivial
  | .inr (.inr (.inl _)) :: _ => exact trivial
  | .inr (.inr (.inr _)) :: _ => exact trivial
  | .inl n :: sk =>
  refine zr_bif (fun hb3 => ?_) (fun _ => zr_fail)
  have hb3 := Nat.le_of_ble_eq_true hb3
  have hn31 : n < 2 ^ 31 := by omega
  rintro ⟨b1, b2, hn⟩
  have b1 : nc + 1 ≤ R.cells := b1
  have b2 : ns + n ≤ R.slots := b2
  refine ⟨Nat.le_of_succ_le b1, Nat.le_trans (Nat.le_add_right _ _) b2, fun ρ ν ws H locs ls kk hS => ?_⟩
  show W p l e R s m args below meth c H locs nc ns _ (F0 m (pcs.getD k 0) ls kk)
  rw [hpc]
  obtain ⟨hS1, hG, hH, hL, hV, hP, hD, hS⟩ := hS
  match kk, hV with
  | _ :: kk, ⟨rfl, hV⟩ =>
  refine va_newa (atype := .long) (ty := .long) (N' := n) (a0 := (n, .inr (.inl (fun _ => 0)))) hx hb (hts _ hw) rfl hK hP hD hS hA (fun _ => rfl) (nI_pos hn31) (nI_clamp hn31) (by show n * 8 ≤ 536870912; omega) b1 b2 hdg (fun q cA H1 hK1 hP1 hD1 hS2 => ?_)
  have hA1 : zr_A s cA .long := hK1.2 0 (cA, .long) rfl
  have hn := hn (ρ ++ [q]) ν _ H1 locs ls (.ref q :: kk) ⟨⟨hS1.1.trans (List.prefix_append _ _), hS1.2⟩, hG, hH.push (show zr_C s (ρ ++ [q]) ν (.inr (2, n, 0, 0)) (.inl (cA, n, .inr (.inl (fun _ => 0)))) from ⟨⟨by omega, by omega⟩, hA1, Or.inr (Or.inr (Or.inl ⟨rfl, _, rfl, fun i _ => by rw [zl_el0]; rfl⟩))⟩), hL.mono (List.prefix_append _ _) (List.prefix_refl _), ⟨⟨q, by rw [← hH.1, hH.2.1]; simp, rfl⟩, hV.mono (List.prefix_append _ _) (List.prefix_refl _)⟩, hP1, hD1, hS2⟩
  rw [hp1] at hn
  exact hn
theorem zo_newq {M : zr_M} {pcs : List Nat} {k pc idx : Nat} (hpc : pcs.getD k 0 = pc) (hp1 : pcs.getD (k + 1) 0 = pc + 3) (hdg : decode M.2.1 pc = .ok (.anewarray idx, 3)) (hw : Cond.classLink M.1 idx "EvenBodies$Body" ∈ zg_tbl) : zr_Ok M pcs k (zz_newa 3) := by
  intro E d hX st
  obtain ⟨p, l, e, R, s, m, args, below, meth, c, D, A, H0, nL, ρ0, ν0, Qc⟩ := E
  obtain ⟨own, cc, nl, ret, nm⟩ := M
  obtain ⟨sk, la, h, g, nc, ns⟩ := st
  obtain ⟨hx, hb, hml, hown, hts, hK, hlk, hr, hnm, rfl, hA, hR1, hR2, hEx⟩ := hX
  match sk with
  | [] => exact trivial
  | .inr (.inl _) :: _ => exact trivial
  | .inr (.inr (.inl _)) :: _ => exact trivial
  | .inr (.inr (.inr _)) :: _ => exact trivial
  | .inl n :: sk =>
  refine zr_bif (fun hb3 => ?_) (fun _ => zr_fail)
  have hb3 := Nat.le_of_ble_eq_true hb3
  have hn31 : n < 2 ^ 31 := by omega
  rintro ⟨b1, b2, hn⟩
  have b1 : nc + 1 ≤ R.cells := b1
  have b2 : ns + n ≤ R.slots := b2
  refine ⟨Nat.le_of_succ_le b1, Nat.le_trans (Nat.le_add_right _ _) b2, fun ρ ν ws H locs ls kk hS => ?_⟩
  show W p l e R s m args below meth c H locs nc ns _ (F0 m (pcs.getD k 0) ls kk)
  rw [hpc]
  obtain ⟨hS1, hG, hH, hL, hV, hP, hD, hS⟩ := hS
  match kk, hV with
  | _ :: kk, ⟨rfl, hV⟩ =>
  refine va_newq (C := "EvenBodies$Body") (N' := n) hx hb hown (hts _ hw) hEx.1 hK hP hD hS hA (nI_pos hn31) (nI_clamp hn31) (by omega) b1 b2 hdg (fun q cA H1 hK1 hP1 hD1 hS2 => ?_)
  have hA1 : zr_A s cA (.object "EvenBodies$Body") := hK1.2 0 (cA, .object "EvenBodies$Body") rfl
  have hn := hn (ρ ++ [q]) ν _ H1 locs ls (.ref q :: kk) ⟨⟨hS1.1.trans (List.prefix_append _ _), hS1.2⟩, hG, hH.push (show zr_C s (ρ ++ [q]) ν (.inr (3, n, 0, 0)) (.inl (cA, n, .inr (.inr (.inr (.inr (fun _ => none)))))) from ⟨⟨by omega, by omega⟩, hA1, Or.inr (Or.inr (Or.inr ⟨rfl, _, rfl, fun i _ => Or.inl ⟨zl_el0 i, rfl⟩⟩))⟩), hL.mono (List.prefix_append _ _) (List.prefix_refl _), ⟨⟨q, by rw [← hH.1, hH.2.1]; simp, rfl⟩, hV.mono (List.prefix_append _ _) (List.prefix_refl _)⟩, hP1, hD1, hS2⟩
  rw [hp1] at hn
  exact hn
theorem zo_new {M : zr_M} {pcs : List Nat} {k pc idx ci N : Nat} {C : String} {T : u_T} {ty0 : Nat → FieldType} {fs : List zz_V} {vs : List Value} (hpc : pcs.getD k 0 = pc) (hp1 : pcs.getD (k + 1) 0 = pc + 3) (hdg : decode M.2.1 pc = .ok (.new idx, 3)) (hcl : zz_cl[ci]? = some (C, T, N)) (hin : ∀ w ∈ u_ws C T N, w ∈ zg_tbl) (hty : ∀ k, k < N → parseFieldDescriptor (T k).2.2.1 = some (ty0 k)) (hw : Cond.classLink M.1 idx C ∈ zg_tbl) (hw2 : Cond.instantiable C N ∈ zg_tbl) (hw3 : Cond.initialized C ∈ zg_tbl) (hvs : ∀ (ρ : List Nat) (ν : List Int32), zr_Vs ρ ν fs vs) (hfs : ∀ j, j < N → defaultValue (ty0 j) = vp_V vs j) : zr_Ok M pcs k (zz_new ci N fs) := by
  intro E d hX st
  obtain ⟨p, l, e, R, s, m, args, below, meth, c, D, A, H0, nL, ρ0, ν0, Qc⟩ := E
  obtain ⟨own, cc, nl, ret, nm⟩ := M
  obtain ⟨sk, la, h, g, nc, ns⟩ := st
  obtain ⟨hx, hb, hml, hown, hts, hK, hlk, hr, hnm, rfl, hA, hR1, hR2, hEx⟩ := hX
  rintro ⟨b1, b2, hn⟩
  have b1 : nc + 1 ≤ R.cells := b1
  have b2 : ns + N ≤ R.slots := b2
  refine ⟨Nat.le_of_succ_le b1, Nat.le_trans (Nat.le_add_right _ _) b2, fun ρ ν ws H locs ls kk hS => ?_⟩
  show W p l e R s m args below meth c H locs nc ns _ (F0 m (pcs.getD k 0) ls kk)
  rw [hpc]
  obtain ⟨hS1, hG, hH, hL, hV, hP, hD, hS⟩ := hS
  refine va_new (ci := ci) (fs := vs) hx hb hts hin ty0 hty hown (hts _ hw) (hts _ hw2) (hts _ hw3) hK hP hD hS hA hcl hfs b1 b2 hdg (fun q H1 hP1 hD1 hS2 => ?_)
  have hn := hn (ρ ++ [q]) ν _ H1 locs ls (.ref q :: kk) ⟨⟨hS1.1.trans (List.prefix_append _ _), hS1.2⟩, hG, hH.push (show zr_C s (ρ ++ [q]) ν (.inl (ci, fs)) (.inr (ci, vs)) from ⟨rfl, hvs _ _⟩), hL.mono (List.prefix_append _ _) (List.prefix_refl _), ⟨⟨q, by rw [← hH.1, hH.2.1]; simp, rfl⟩, hV.mono (List.prefix_append _ _) (List.prefix_refl _)⟩, hP1, hD1, hS2⟩
  rw [hp1] at hn
  exact hn
theorem zo_ireturn {M : zr_M} {pcs : List Nat} {k pc : Nat} (hpc : pcs.getD k 0 = pc) (hdg : decode M.2.1 pc = .ok (.ireturn, 1)) (hret : M.2.2.2.1 = some .int) : zr_Ok M pcs k (zz_ret1 zz_isI) := by
  intro E d hX st
  obtain ⟨p, l, e, R, s, m, args, below, meth, c, D, A, H0, nL, ρ0, ν0, Qc⟩ := E
  obtain ⟨own, cc, nl, ret, nm⟩ := M
  obtain ⟨sk, la, h, g, nc, ns⟩ := st
  obtain ⟨hx, hb, hml, hown, hts, hK, hlk, hr, hnm, rfl, hA, hR1, hR2, hEx⟩ := hX
  match sk with
  | [] => exact trivial
  | _ :: _ :: _ => exact trivial
  | [v] =>
  refine zr_bif (fun hok => ?_) (fun _ => zr_fail)
  rintro ⟨b1, b2, hq⟩
  refine ⟨b1, b2, fun ρ ν ws H locs ls kk hS => ?_⟩
  show W p l e R s m args below meth c H locs nc ns _ (F0 m (pcs.getD k 0) ls kk)
  rw [hpc]
  obtain ⟨hS1, hG, hH, hL, hV, hP, hD, hS⟩ := hS
  match kk, hV with
  | [x], ⟨hx1, _⟩ =>
  obtain ⟨y, rfl⟩ := zl_I hok hx1
  refine W.widen b1 b2 ?_
  exact W.iret hx hb (hr.trans hret) (fun t ht hW => hq ρ ν ws H locs (some _) hS1.1 hS1.2 hG hH hx1 hP hD hS t ht hW) hS.2.2 hdg hlk
theorem zo_zreturn {M : zr_M} {pcs : List Nat} {k pc : Nat} (hpc : pcs.getD k 0 = pc) (hdg : decode M.2.1 pc = .ok (.ireturn, 1)) (hret : M.2.2.2.1 = some .boolean) : zr_Ok M pcs k (zz_ret1 zz_is01) := by
  intro E d hX st
  obtain ⟨p, l, e, R, s, m, args, below, meth, c, D, A, H0, nL, ρ0, ν0, Qc⟩ := E
  obtain ⟨own, cc, nl, ret, nm⟩ := M
  obtain ⟨sk, la, h, g, nc, ns⟩ := st
  obtain ⟨hx, hb, hml, hown, hts, hK, hlk, hr, hnm, rfl, hA, hR1, hR2, hEx⟩ := hX
  match sk with
  | [] => exact trivial
  | _ :: _ :: _ => exact trivial
  | [v] =>
  refine zr_bif (fun hok => ?_) (fun _ => zr_fail)
  rintro ⟨b1, b2, hq⟩
  refine ⟨b1, b2, fun ρ ν ws H locs ls kk hS => ?_⟩
  show W p l e R s m args below meth c H locs nc ns _ (F0 m (pcs.getD k 0) ls kk)
  rw [hpc]
  obtain ⟨hS1, hG, hH, hL, hV, hP, hD, hS⟩ := hS
  match kk, hV with
  | [x], ⟨hx1, _⟩ =>
  obtain ⟨y, rfl, hz⟩ := zl_01 hok hx1
  refine W.widen b1 b2 ?_
  exact W.zret hx hb (hr.trans hret) hz (fun t ht hW => hq ρ ν ws H locs (some _) hS1.1 hS1.2 hG hH hx1 hP hD hS t ht hW) hS.2.2 hdg hlk
theorem zo_lreturn {M : zr_M} {pcs : List Nat} {k pc : Nat} (hpc : pcs.getD k 0 = pc) (hdg : decode M.2.1 pc = .ok (.lreturn, 1)) (hret : M.2.2.2.1 = some .long) : zr_Ok M pcs k (zz_ret1 zz_isJ) := by
  intro E d hX st
  obtain ⟨p, l, e, R, s, m, args, below, meth, c, D, A, H0, nL, ρ0, ν0, Qc⟩ := E
  obtain ⟨own, cc, nl, ret, nm⟩ := M
  obtain ⟨sk, la, h, g, nc, ns⟩ := st
  obtain ⟨hx, hb, hml, hown, hts, hK, hlk, hr, hnm, rfl, hA, hR1, hR2, hEx⟩ := hX
  match sk with
  | [] => exact trivial
  | _ :: _ :: _ => exact trivial
  | [v] =>
  refine zr_bif (fun hok => ?_) (fun _ => zr_fail)
  rintro ⟨b1, b2, hq⟩
  refine ⟨b1, b2, fun ρ ν ws H locs ls kk hS => ?_⟩
  show W p l e R s m args below meth c H locs nc ns _ (F0 m (pcs.getD k 0) ls kk)
  rw [hpc]
  obtain ⟨hS1, hG, hH, hL, hV, hP, hD, hS⟩ := hS
  match kk, hV with
  | [x], ⟨hx1, _⟩ =>
  obtain ⟨y, rfl⟩ := zl_J hok hx1
  refine W.widen b1 b2 ?_
  exact W.lret hx hb (hr.trans hret) (fun t ht hW => hq ρ ν ws H locs (some _) hS1.1 hS1.2 hG hH hx1 hP hD hS t ht hW) hS.2.2 hdg hlk
theorem zo_areturn {M : zr_M} {pcs : List Nat} {k pc : Nat} (hpc : pcs.getD k 0 = pc) (hdg : decode M.2.1 pc = .ok (.areturn, 1)) {n : String} (hret : M.2.2.2.1 = some (.object n)) : zr_Ok M pcs k (zz_ret1 zz_isA) := by
  intro E d hX st
  obtain ⟨p, l, e, R, s, m, args, below, meth, c, D, A, H0, nL, ρ0, ν0, Qc⟩ := E
  obtain ⟨own, cc, nl, ret, nm⟩ := M
  obtain ⟨sk, la, h, g, nc, ns⟩ := st
  obtain ⟨hx, hb, hml, hown, hts, hK, hlk, hr, hnm, rfl, hA, hR1, hR2, hEx⟩ := hX
  match sk with
  | [] => exact trivial
  | _ :: _ :: _ => exact trivial
  | [v] =>
  refine zr_bif (fun hok => ?_) (fun _ => zr_fail)
  rintro ⟨b1, b2, hq⟩
  refine ⟨b1, b2, fun ρ ν ws H locs ls kk hS => ?_⟩
  show W p l e R s m args below meth c H locs nc ns _ (F0 m (pcs.getD k 0) ls kk)
  rw [hpc]
  obtain ⟨hS1, hG, hH, hL, hV, hP, hD, hS⟩ := hS
  match kk, hV with
  | [x], ⟨hx1, _⟩ =>
  obtain ⟨y, rfl⟩ := zl_A hok hx1
  refine W.widen b1 b2 ?_
  exact W.aret hx hb (hr.trans hret) (Or.inl ⟨n, rfl⟩) (Or.inr ⟨_, rfl⟩) (fun t ht hW => hq ρ ν ws H locs (some _) hS1.1 hS1.2 hG hH hx1 hP hD hS t ht hW) hS.2.2 hdg hlk
theorem zo_return {M : zr_M} {pcs : List Nat} {k pc : Nat} (hpc : pcs.getD k 0 = pc) (hdg : decode M.2.1 pc = .ok (.return_, 1)) (hret : M.2.2.2.1 = none) : zr_Ok M pcs k zz_ret0 := by
  intro E d hX st
  obtain ⟨p, l, e, R, s, m, args, below, meth, c, D, A, H0, nL, ρ0, ν0, Qc⟩ := E
  obtain ⟨own, cc, nl, ret, nm⟩ := M
  obtain ⟨sk, la, h, g, nc, ns⟩ := st
  obtain ⟨hx, hb, hml, hown, hts, hK, hlk, hr, hnm, rfl, hA, hR1, hR2, hEx⟩ := hX
  match sk with
  | _ :: _ => exact trivial
  | [] =>
  rintro ⟨b1, b2, hq⟩
  refine ⟨b1, b2, fun ρ ν ws H locs ls kk hS => ?_⟩
  show W p l e R s m args below meth c H locs nc ns _ (F0 m (pcs.getD k 0) ls kk)
  rw [hpc]
  obtain ⟨hS1, hG, hH, hL, hV, hP, hD, hS⟩ := hS
  match kk, hV with
  | [], _ =>
  refine W.widen b1 b2 ?_
  exact W.vret hx hb (hr.trans hret) (fun t ht hW => hq ρ ν ws H locs none hS1.1 hS1.2 hG hH trivial hP hD hS t ht hW) hS.2.2 hdg hlk
theorem zo_obj {M : zr_M} {pcs : List Nat} {k pc idx : Nat} (hpc : pcs.getD k 0 = pc) (hp1 : pcs.getD (k + 1) 0 = pc + 3) (hdg : decode M.2.1 pc = .ok (.invokespecial idx, 3)) (hw : Cond.methodLink M.1 idx objectInit ∈ zg_tbl) (hw2 : Cond.instanceMethod objectInit ∈ zg_tbl) (hw3 : Cond.code objectInit ⟨#[0xb1]⟩ 1 none ∈ zg_tbl) : zr_Ok M pcs k zz_obj := by
  intro E d hX st
  obtain ⟨p, l, e, R, s, m, args, below, meth, c, D, A, H0, nL, ρ0, ν0, Qc⟩ := E
  obtain ⟨own, cc, nl, ret, nm⟩ := M
  obtain ⟨sk, la, h, g, nc, ns⟩ := st
  obtain ⟨hx, hb, hml, hown, hts, hK, hlk, hr, hnm, rfl, hA, hR1, hR2, hEx⟩ := hX
  match sk with
  | [] => exact trivial
  | v :: sk =>
  refine zr_bif (fun hok => ?_) (fun _ => zr_fail)
  rw [Bool.and_eq_true] at hok
  rintro ⟨b1, b2, hn⟩
  refine ⟨b1, b2, fun ρ ν ws H locs ls kk hS => ?_⟩
  show W p l e R s m args below meth c H locs nc ns _ (F0 m (pcs.getD k 0) ls kk)
  rw [hpc]
  obtain ⟨hS1, hG, hH, hL, hV, hP, hD, hS⟩ := hS
  match kk, hV with
  | x :: kk, ⟨hx1, hV⟩ =>
  obtain ⟨y, rfl⟩ := zl_A hok.1 hx1
  have hwt := zr_wt hV
  have hwt2 := Nat.le_of_ble_eq_true hok.2
  have hn := hn ρ ν ws H locs ls kk ⟨hS1, hG, hH, hL, hV, hP, hD, hS⟩
  rw [hp1] at hn
  exact W.objInit (g := F0 m pc ls (.ref y :: kk)) hx hb hown (hts _ hw) (hts _ hw2) (hts _ hw3) rfl (by rw [hml]; exact hL.1) rfl hdg (by omega) (by show 2 * 0 + _ + 12 ≤ _; omega) hn
