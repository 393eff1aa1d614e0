/-! LAWS OF THE BRANCHES (written by wip/p1/genops2.py) -/
def zr_SE (E : zr_E) (st : zz_S) (ρ : List Nat) (ν : List Int32) (ws : va_W) (H : Heap) (locs : List Loc) (ls : Array Slot) (k : List Value) : Prop := match E with
  | (_, _, _, _, s, _, _, _, _, _, D, A, H0, nL, ρ0, ν0, _) => zr_S D s A H0 nL ρ0 ν0 st ρ ν ws H locs ls k
def zr_WE (E : zr_E) (pc nc ns : Nat) (H : Heap) (locs : List Loc) (ls : Array Slot) (k : List Value) : Prop := match E with
  | (p, l, e, R, s, m, args, below, meth, c, _, A, _, _, _, _, Qc) => W p l e R s m args below meth c H locs nc ns (MQ below Qc args s R.cells R.slots A) (F0 m pc ls k)
theorem zr_W.use {E : zr_E} {pc : Nat} {st : zz_S} (h : zr_W E pc st) {ρ : List Nat} {ν : List Int32} {ws : va_W} {H : Heap} {locs : List Loc} {ls : Array Slot} {k : List Value} (hS : zr_SE E st ρ ν ws H locs ls k) : zr_WE E pc st.2.2.2.2.1 st.2.2.2.2.2 H locs ls k := h.2.2 ρ ν ws H locs ls k hS
theorem zr_W.of {E : zr_E} {pc pc2 : Nat} {st st2 : zz_S} (h2 : zr_W E pc2 st2) (hb : st2.2.2.2.2 = st.2.2.2.2) (h : ∀ (ρ : List Nat) (ν : List Int32) (ws : va_W) (H : Heap) (locs : List Loc) (ls : Array Slot) (k : List Value), zr_SE E st ρ ν ws H locs ls k → zr_WE E pc st.2.2.2.2.1 st.2.2.2.2.2 H locs ls k) : zr_W E pc st := by
  obtain ⟨p, l, e, R, s, m, args, below, meth, c, D, A, H0, nL, ρ0, ν0, Qc⟩ := E
  obtain ⟨b1, b2, -⟩ := h2
  rw [hb] at b1 b2
  exact ⟨b1, b2, h⟩
theorem zr_SE.G {E : zr_E} {st : zz_S} {ρ : List Nat} {ν : List Int32} {ws : va_W} {H : Heap} {locs : List Loc} {ls : Array Slot} {k : List Value} (h : zr_SE E st ρ ν ws H locs ls k) : zr_G st.2.2.2.1 ν := h.2.1
theorem zr_SE.with {E : zr_E} {sk sk2 : List zz_V} {la : List (Option zz_V)} {h : List zz_C} {g g2 : zz_G} {nc ns : Nat} {ρ : List Nat} {ν : List Int32} {ws : va_W} {H : Heap} {locs : List Loc} {ls : Array Slot} {k k2 : List Value} (hS : zr_SE E (sk, la, h, g, nc, ns) ρ ν ws H locs ls k) (hG : zr_G g2 ν) (hV : zr_Vs ρ ν sk2 k2) : zr_SE E (sk2, la, h, g2, nc, ns) ρ ν ws H locs ls k2 :=
  ⟨hS.1, hG, hS.2.2.1, hS.2.2.2.1, hV, hS.2.2.2.2.2⟩
theorem zr_res_go {E : zr_E} {d : Nat} {pcs : List Nat} {k t : Nat} {st0 st : zz_S} (h : zr_go E pcs (zz_abs k t) st → zr_go E pcs k st0) : zr_res E d pcs k st0 (zz_go t st) := by
  cases t with
  | zero => exact h
  | succ t => exact h
theorem zr_bif {E : zr_E} {d : Nat} {pcs : List Nat} {k : Nat} {st : zz_S} {b : Bool} {r1 r2 : zz_R} (h1 : b = true → zr_res E d pcs k st r1) (h2 : b = false → zr_res E d pcs k st r2) : zr_res E d pcs k st (bif b then r1 else r2) := by
  cases b with
  | true => exact h1 rfl
  | false => exact h2 rfl
theorem zr_iv {g : zz_G} {ν : List Int32} (hG : zr_G g ν) {v : zz_V} {lo hi : Nat} (h : zz_iv g v = some (lo, hi)) {ρ : List Nat} {X : Int32} (hv : zr_V ρ ν v (.int X)) : lo ≤ zr_b X ∧ zr_b X ≤ hi := by
  match v, h, hv with
  | .inl n, h, hv =>
    simp only [zz_iv, Option.some.injEq, Prod.mk.injEq] at h
    cases hv
    rw [zl_b, ← h.1, ← h.2]
    exact ⟨Nat.le_refl _, Nat.le_refl _⟩
  | .inr (.inr (.inr i)), h, ⟨j, hj, e⟩ =>
    cases e
    change (match zz_nth g i with
      | some (lo, hi, _) => some (lo, hi)
      | none => none) = some (lo, hi) at h
    rw [zl_nth] at h
    cases hg : g[i]? with
    | none => rw [hg] at h; cases h
    | some q =>
      obtain ⟨lo2, hi2, tag⟩ := q
      rw [hg] at h
      cases h
      obtain ⟨j2, e1, e2, e3, -⟩ := hG.2 i _ _ tag hg
      rw [hj] at e1
      cases e1
      exact ⟨e2, e3⟩
theorem zr_iv_I {g : zz_G} {v : zz_V} {q : Nat × Nat} (h : zz_iv g v = some q) : zz_isI v = true := by
  match v, h with
  | .inl n, h => rfl
  | .inr (.inl _), h => cases h
  | .inr (.inr (.inl _)), h => cases h
  | .inr (.inr (.inr i)), h => rfl
theorem zr_cut {g : zz_G} {ν : List Int32} (hG : zr_G g ν) {v : zz_V} {lo hi : Nat} {ρ : List Nat} {X : Int32} (hv : zr_V ρ ν v (.int X)) (h1 : lo ≤ zr_b X) (h2 : zr_b X ≤ hi) : zr_G (zz_cut g v lo hi) ν := by
  match v, hv with
  | .inl n, _ => exact hG
  | .inr (.inl _), _ => exact hG
  | .inr (.inr (.inl _)), _ => exact hG
  | .inr (.inr (.inr i)), ⟨j, hj, e⟩ =>
    cases e
    show zr_G (match zz_nth g i with
      | some (_, _, tag) => zz_set (lo, hi, tag) g i
      | none => g) ν
    rw [zl_nth]
    cases hg : g[i]? with
    | none => exact hG
    | some q =>
      obtain ⟨lo2, hi2, tag⟩ := q
      show zr_G (zz_set (lo, hi, tag) g i) ν
      rw [zl_set]
      refine hG.set hg (fun i2 hi2 => ?_)
      rw [hj] at hi2
      cases hi2
      exact ⟨h1, h2⟩
theorem zl_isC {v : zz_V} (h : zz_isC v = true) : v = .inl (zz_num v) := by
  match v, h with
  | .inl n, _ => rfl
theorem zl_nble {a b : Nat} (h : Nat.ble a b = false) : b < a := Nat.not_le.mp fun q => by rw [Nat.ble_eq_true_of_le q] at h; cases h
theorem zl_min (a b : Nat) : zz_min a b ≤ a ∧ zz_min a b ≤ b ∧ (zz_min a b = a ∨ zz_min a b = b) := by
  unfold zz_min
  cases h : Nat.ble a b with
  | true => have := Nat.le_of_ble_eq_true h; exact ⟨Nat.le_refl a, this, Or.inl rfl⟩
  | false => have := zl_nble h; exact ⟨Nat.le_of_lt this, Nat.le_refl b, Or.inr rfl⟩
theorem zl_max (a b : Nat) : a ≤ zz_max a b ∧ b ≤ zz_max a b ∧ (zz_max a b = a ∨ zz_max a b = b) := by
  unfold zz_max
  cases h : Nat.ble a b with
  | true => have := Nat.le_of_ble_eq_true h; exact ⟨this, Nat.le_refl b, Or.inr rfl⟩
  | false => have := zl_nble h; exact ⟨Nat.le_refl a, Nat.le_of_lt this, Or.inl rfl⟩
/-- what an instruction that compares two ints gives -/
def zr_row (P : Int32 → Int32 → Prop) (E : zr_E) (pcs : List Nat) (k tT tF : Nat) (sk0 sk : List zz_V) (la : List (Option zz_V)) (h : List zz_C) (g : zz_G) (nc ns : Nat) (x y : zz_V) : Prop :=
  ∀ (ρ : List Nat) (ν : List Int32) (ws : va_W) (H : Heap) (locs : List Loc) (ls : Array Slot) (k0 : List Value), zr_SE E (sk0, la, h, g, nc, ns) ρ ν ws H locs ls k0 → zz_isI x = true → zz_isI y = true → ∃ (k1 : List Value) (X Y : Int32), zr_Vs ρ ν sk k1 ∧ zr_V ρ ν x (.int X) ∧ zr_V ρ ν y (.int Y) ∧ ((P X Y → zr_WE E (pcs.getD (zz_abs k tT) 0) nc ns H locs ls k1) → (¬ P X Y → zr_WE E (pcs.getD (zz_abs k tF) 0) nc ns H locs ls k1) → zr_WE E (pcs.getD k 0) nc ns H locs ls k0)
theorem zr_dlt {E : zr_E} {d : Nat} {pcs : List Nat} {k tT tF : Nat} {sk0 sk : List zz_V} {la : List (Option zz_V)} {h : List zz_C} {g : zz_G} {nc ns : Nat} {x y : zz_V} (hrow : zr_row (fun X Y => X < Y) E pcs k tT tF sk0 sk la h g nc ns x y) : zr_res E d pcs k (sk0, la, h, g, nc, ns) (zz_dlt k tT tF (sk, la, h, g, nc, ns) g x y) := by
  unfold zz_dlt
  refine zr_bif (fun hc => ?_) (fun hc => ?_)
  · rw [Bool.and_eq_true] at hc
    have ex := zl_isC hc.1
    have ey := zl_isC hc.2
    have ix : zz_isI x = true := by rw [ex]; rfl
    have iy : zz_isI y = true := by rw [ey]; rfl
    generalize hB : zz_b (zz_num y) = B
    generalize hC : zz_b (zz_num x) = C
    refine zr_bif (fun hb => ?_) (fun hb => ?_)
    · refine zr_res_go (fun hn => zr_W.of hn rfl (fun ρ ν ws H locs ls k0 hS => ?_))
      obtain ⟨k1, X, Y, hV, hx, hy, hrow⟩ := hrow ρ ν ws H locs ls k0 hS ix iy
      rw [ex] at hx
      rw [ey] at hy
      refine hrow (fun hlt => ?_) (fun _ => hn.use (hS.with hS.G hV))
      have hlt : zr_b X < zr_b Y := zl_b_ltI.mp hlt
      rw [Value.int.inj hx, Value.int.inj hy, zl_b, zl_b, hB, hC] at hlt
      exact absurd (Nat.le_of_ble_eq_true hb) (Nat.not_le.mpr hlt)
    · refine zr_res_go (fun hn => zr_W.of hn rfl (fun ρ ν ws H locs ls k0 hS => ?_))
      obtain ⟨k1, X, Y, hV, hx, hy, hrow⟩ := hrow ρ ν ws H locs ls k0 hS ix iy
      rw [ex] at hx
      rw [ey] at hy
      refine hrow (fun _ => hn.use (hS.with hS.G hV)) (fun hlt => ?_)
      have hlt : ¬ zr_b X < zr_b Y := fun q => hlt (zl_b_ltI.mpr q)
      rw [Value.int.inj hx, Value.int.inj hy, zl_b, zl_b, hB, hC] at hlt
      exact absurd (zl_nble hb) hlt
  · cases hxv : zz_iv g x with
    | none => exact zr_fail
    | some qx =>
    obtain ⟨xl, xh⟩ := qx
    cases hyv : zz_iv g y with
    | none => exact zr_fail
    | some qy =>
    obtain ⟨yl, yh⟩ := qy
    have ix := zr_iv_I hxv
    have iy := zr_iv_I hyv
    show zr_res E d pcs k _ (zz_dltI k tT tF (sk, la, h, g, nc, ns) g x y xl xh yl yh)
    unfold zz_dltI
    refine zr_bif (fun h1 => ?_) (fun h1 => ?_)
    · have h1 := Nat.le_of_ble_eq_true h1
      refine zr_bif (fun h2 => ?_) (fun h2 => ?_)
      · have h2 := Nat.le_of_ble_eq_true h2
        intro _ hall
        have hT : zr_W E (pcs.getD (zz_abs k tT) 0) (sk, la, h, zz_cut (zz_cut g x xl (zz_min xh (yh - 1))) y (zz_max yl (xl + 1)) yh, nc, ns) := hall _ List.mem_cons_self
        have hF : zr_W E (pcs.getD (zz_abs k tF) 0) (sk, la, h, zz_cut (zz_cut g x (zz_max xl yl) xh) y yl (zz_min yh xh), nc, ns) := hall _ (List.mem_cons_of_mem _ List.mem_cons_self)
        refine zr_W.of hT rfl (fun ρ ν ws H locs ls k0 hS => ?_)
        obtain ⟨k1, X, Y, hV, hx, hy, hrow⟩ := hrow ρ ν ws H locs ls k0 hS ix iy
        have bx := zr_iv hS.G hxv hx
        have by2 := zr_iv hS.G hyv hy
        have m1 := zl_min xh (yh - 1)
        have m2 := zl_max yl (xl + 1)
        have m3 := zl_max xl yl
        have m4 := zl_min yh xh
        refine hrow (fun hlt => ?_) (fun hlt => ?_)
        · have hlt : zr_b X < zr_b Y := zl_b_ltI.mp hlt
          exact hT.use (hS.with (zr_cut (zr_cut hS.G hx bx.1 (by omega)) hy (by omega) by2.2) hV)
        · have hlt : ¬ zr_b X < zr_b Y := fun q => hlt (zl_b_ltI.mpr q)
          exact hF.use (hS.with (zr_cut (zr_cut hS.G hx (by omega) bx.2) hy by2.1 (by omega)) hV)
      · have h2 := zl_nble h2
        refine zr_res_go (fun hn => zr_W.of hn rfl (fun ρ ν ws H locs ls k0 hS => ?_))
        obtain ⟨k1, X, Y, hV, hx, hy, hrow⟩ := hrow ρ ν ws H locs ls k0 hS ix iy
        have bx := zr_iv hS.G hxv hx
        have by2 := zr_iv hS.G hyv hy
        refine hrow (fun _ => hn.use (hS.with hS.G hV)) (fun hlt => ?_)
        have hlt : ¬ zr_b X < zr_b Y := fun q => hlt (zl_b_ltI.mpr q)
        omega
    · have h1 := zl_nble h1
      refine zr_res_go (fun hn => zr_W.of hn rfl (fun ρ ν ws H locs ls k0 hS => ?_))
      obtain ⟨k1, X, Y, hV, hx, hy, hrow⟩ := hrow ρ ν ws H locs ls k0 hS ix iy
      have bx := zr_iv hS.G hxv hx
      have by2 := zr_iv hS.G hyv hy
      refine hrow (fun hlt => ?_) (fun _ => hn.use (hS.with hS.G hV))
      have hlt : zr_b X < zr_b Y := zl_b_ltI.mp hlt
      omega
theorem zr_deq {E : zr_E} {d : Nat} {pcs : List Nat} {k tT tF : Nat} {sk0 sk : List zz_V} {la : List (Option zz_V)} {h : List zz_C} {g : zz_G} {nc ns : Nat} {x y : zz_V} (hrow : zr_row (fun X Y => X = Y) E pcs k tT tF sk0 sk la h g nc ns x y) : zr_res E d pcs k (sk0, la, h, g, nc, ns) (zz_deq k tT tF (sk, la, h, g, nc, ns) g x y) := by
  unfold zz_deq
  refine zr_bif (fun hc => ?_) (fun hc => ?_)
  · rw [Bool.and_eq_true] at hc
    have ex := zl_isC hc.1
    have ey := zl_isC hc.2
    have ix : zz_isI x = true := by rw [ex]; rfl
    have iy : zz_isI y = true := by rw [ey]; rfl
    generalize hB : zz_b (zz_num y) = B
    generalize hC : zz_b (zz_num x) = C
    refine zr_bif (fun hb => ?_) (fun hb => ?_)
    · refine zr_res_go (fun hn => zr_W.of hn rfl (fun ρ ν ws H locs ls k0 hS => ?_))
      obtain ⟨k1, X, Y, hV, hx, hy, hrow⟩ := hrow ρ ν ws H locs ls k0 hS ix iy
      rw [ex] at hx
      rw [ey] at hy
      refine hrow (fun _ => hn.use (hS.with hS.G hV)) (fun hne => absurd (zl_b_inj ?_) hne)
      rw [Value.int.inj hx, Value.int.inj hy, zl_b, zl_b, hB, hC]
      exact Nat.eq_of_beq_eq_true hb
    · refine zr_res_go (fun hn => zr_W.of hn rfl (fun ρ ν ws H locs ls k0 hS => ?_))
      obtain ⟨k1, X, Y, hV, hx, hy, hrow⟩ := hrow ρ ν ws H locs ls k0 hS ix iy
      rw [ex] at hx
      rw [ey] at hy
      refine hrow (fun he => ?_) (fun _ => hn.use (hS.with hS.G hV))
      have he : zr_b X = zr_b Y := congrArg zr_b he
      rw [Value.int.inj hx, Value.int.inj hy, zl_b, zl_b, hB, hC] at he
      exact absurd he (Nat.ne_of_beq_eq_false hb)
  · cases hxv : zz_iv g x with
    | none => exact zr_fail
    | some qx =>
    obtain ⟨xl, xh⟩ := qx
    cases hyv : zz_iv g y with
    | none => exact zr_fail
    | some qy =>
    obtain ⟨yl, yh⟩ := qy
    have ix := zr_iv_I hxv
    have iy := zr_iv_I hyv
    show zr_res E d pcs k _ (zz_deqI k tT tF (sk, la, h, g, nc, ns) g x y xl xh yl yh)
    unfold zz_deqI
    have m1 := zl_max xl yl
    have m2 := zl_min xh yh
    refine zr_bif (fun h1 => ?_) (fun h1 => ?_)
    · have h1 := Nat.le_of_ble_eq_true h1
      refine zr_bif (fun h2 => ?_) (fun h2 => ?_)
      · rw [Bool.and_eq_true] at h2
        have e1 := Nat.eq_of_beq_eq_true h2.1
        have e2 := Nat.eq_of_beq_eq_true h2.2
        refine zr_res_go (fun hn => zr_W.of hn rfl (fun ρ ν ws H locs ls k0 hS => ?_))
        obtain ⟨k1, X, Y, hV, hx, hy, hrow⟩ := hrow ρ ν ws H locs ls k0 hS ix iy
        have bx := zr_iv hS.G hxv hx
        have by2 := zr_iv hS.G hyv hy
        refine hrow (fun _ => hn.use (hS.with hS.G hV)) (fun hne => absurd (zl_b_inj ?_) hne)
        omega
      · refine zr_bif (fun h3 => ?_) (fun h3 => ?_)
        · have e2 := Nat.eq_of_beq_eq_true h3
          intro _ hall
          have hT : zr_W E (pcs.getD (zz_abs k tT) 0) (sk, la, h, zz_cut g x yl yl, nc, ns) := hall _ List.mem_cons_self
          have hF : zr_W E (pcs.getD (zz_abs k tF) 0) (sk, la, h, zz_cut g x (bif Nat.beq xl yl then xl + 1 else xl) (bif Nat.beq xh yl then xh - 1 else xh), nc, ns) := hall _ (List.mem_cons_of_mem _ List.mem_cons_self)
          refine zr_W.of hT rfl (fun ρ ν ws H locs ls k0 hS => ?_)
          obtain ⟨k1, X, Y, hV, hx, hy, hrow⟩ := hrow ρ ν ws H locs ls k0 hS ix iy
          have bx := zr_iv hS.G hxv hx
          have by2 := zr_iv hS.G hyv hy
          refine hrow (fun he => ?_) (fun hne => ?_)
          · have he : zr_b X = zr_b Y := congrArg zr_b he
            exact hT.use (hS.with (zr_cut hS.G hx (by omega) (by omega)) hV)
          · have hne2 : zr_b X ≠ zr_b Y := fun q => hne (zl_b_inj q)
            refine hF.use (hS.with (zr_cut hS.G hx ?_ ?_) hV)
            · cases h4 : Nat.beq xl yl with
              | true => have := Nat.eq_of_beq_eq_true h4; show xl + 1 ≤ _; omega
              | false => exact bx.1
            · cases h4 : Nat.beq xh yl with
              | true => have := Nat.eq_of_beq_eq_true h4; show _ ≤ xh - 1; omega
              | false => exact bx.2
        · refine zr_bif (fun h5 => ?_) (fun h5 => ?_)
          · have e1 := Nat.eq_of_beq_eq_true h5
            intro _ hall
            have hT : zr_W E (pcs.getD (zz_abs k tT) 0) (sk, la, h, zz_cut g y xl xl, nc, ns) := hall _ List.mem_cons_self
            have hF : zr_W E (pcs.getD (zz_abs k tF) 0) (sk, la, h, zz_cut g y (bif Nat.beq yl xl then yl + 1 else yl) (bif Nat.beq yh xl then yh - 1 else yh), nc, ns) := hall _ (List.mem_cons_of_mem _ List.mem_cons_self)
            refine zr_W.of hT rfl (fun ρ ν ws H locs ls k0 hS => ?_)
            obtain ⟨k1, X, Y, hV, hx, hy, hrow⟩ := hrow ρ ν ws H locs ls k0 hS ix iy
            have bx := zr_iv hS.G hxv hx
            have by2 := zr_iv hS.G hyv hy
            refine hrow (fun he => ?_) (fun hne => ?_)
            · have he : zr_b X = zr_b Y := congrArg zr_b he
              exact hT.use (hS.with (zr_cut hS.G hy (by omega) (by omega)) hV)
            · have hne2 : zr_b X ≠ zr_b Y := fun q => hne (zl_b_inj q)
              refine hF.use (hS.with (zr_cut hS.G hy ?_ ?_) hV)
              · cases h4 : Nat.beq yl xl with
                | true => have := Nat.eq_of_beq_eq_true h4; show yl + 1 ≤ _; omega
                | false => exact by2.1
              · cases h4 : Nat.beq yh xl with
                | true => have := Nat.eq_of_beq_eq_true h4; show _ ≤ yh - 1; omega
                | false => exact by2.2
          · intro _ hall
            have hT : zr_W E (pcs.getD (zz_abs k tT) 0) (sk, la, h, g, nc, ns) := hall (zz_abs k tT, (sk, la, h, g, nc, ns)) List.mem_cons_self
            have hF : zr_W E (pcs.getD (zz_abs k tF) 0) (sk, la, h, g, nc, ns) := hall (zz_abs k tF, (sk, la, h, g, nc, ns)) (List.mem_cons_of_mem _ List.mem_cons_self)
            refine zr_W.of hT rfl (fun ρ ν ws H locs ls k0 hS => ?_)
            obtain ⟨k1, X, Y, hV, hx, hy, hrow⟩ := hrow ρ ν ws H locs ls k0 hS ix iy
            exact hrow (fun _ => hT.use (hS.with hS.G hV)) (fun _ => hF.use (hS.with hS.G hV))
    · have h1 := zl_nble h1
      refine zr_res_go (fun hn => zr_W.of hn rfl (fun ρ ν ws H locs ls k0 hS => ?_))
      obtain ⟨k1, X, Y, hV, hx, hy, hrow⟩ := hrow ρ ν ws H locs ls k0 hS ix iy
      have bx := zr_iv hS.G hxv hx
      have by2 := zr_iv hS.G hyv hy
      refine hrow (fun he => ?_) (fun _ => hn.use (hS.with hS.G hV))
      have he : zr_b X = zr_b Y := congrArg zr_b he
      omega
theorem zl_nlt {a b : Int32} (h : b ≤ a) : ¬ a < b := by
  rw [zl_b_ltI]
  rw [zl_b_leI] at h
  omega
theorem zl_nle {a b : Int32} (h : ¬ b ≤ a) : a < b := by
  rw [zl_b_ltI]
  rw [zl_b_leI] at h
  omega
theorem zo_icmp_lt {M : zr_M} {pcs : List Nat} {k pc t tgt : Nat} {off : Int} (hpc : pcs.getD k 0 = pc) (hp1 : pcs.getD (k + 1) 0 = pc + 3) (hpt : pcs.getD t 0 = tgt) (hdg : decode M.2.1 pc = .ok (.if_icmp .lt off, 3)) (ht : (pc : Int) + off = (tgt : Int)) : zr_Ok M pcs k (zz_ilt k (t + 1) 0) := by
  intro E d hX st
  obtain ⟨p, l, e, R, s, m, args, below, meth, c, D, A, H0, nL, ρ0, ν0, Qc⟩ := E
  obtain ⟨own, cc, nl, ret, nm⟩ := M
  obtain ⟨sk, la, h, g, nc, ns⟩ := st
  obtain ⟨hx, hb, hml, hown, hts, hK, hlk, hr, hnm, rfl, hA, hR1, hR2, hEx⟩ := hX
  match sk with
  | [] => exact trivial
  | [_] => exact trivial
  | y :: x :: sk =>
  refine zr_dlt (sk0 := y :: x :: sk) (fun ρ ν ws H locs ls k0 hS ix iy => ?_)
  match k0, hS.2.2.2.2.1 with
  | vy :: vx :: k1, ⟨hy1, hx1, hV⟩ =>
  obtain ⟨X, rfl⟩ := zl_I ix hx1
  obtain ⟨Y, rfl⟩ := zl_I iy hy1
  refine ⟨k1, X, Y, hV, hx1, hy1, fun kT kF => ?_⟩
  show W p l e R s m args below meth c H locs nc ns _ (F0 m (pcs.getD k 0) ls _)
  rw [hpc]
  have kT : _ → W p l e R s m args below meth c H locs nc ns _ (F0 m (pcs.getD t 0) ls k1) := kT
  have kF : _ → W p l e R s m args below meth c H locs nc ns _ (F0 m (pcs.getD (k + 1) 0) ls k1) := kF
  rw [hpt] at kT
  rw [hp1] at kF
  exact lv_icmp_lt hx hb hdg ht kT kF
theorem zo_if_lt {M : zr_M} {pcs : List Nat} {k pc t tgt : Nat} {off : Int} (hpc : pcs.getD k 0 = pc) (hp1 : pcs.getD (k + 1) 0 = pc + 3) (hpt : pcs.getD t 0 = tgt) (hdg : decode M.2.1 pc = .ok (.ifCond .lt off, 3)) (ht : (pc : Int) + off = (tgt : Int)) : zr_Ok M pcs k (zz_lt0 k (t + 1) 0) := by
  intro E d hX st
  obtain ⟨p, l, e, R, s, m, args, below, meth, c, D, A, H0, nL, ρ0, ν0, Qc⟩ := E
  obtain ⟨own, cc, nl, ret, nm⟩ := M
  obtain ⟨sk, la, h, g, nc, ns⟩ := st
  obtain ⟨hx, hb, hml, hown, hts, hK, hlk, hr, hnm, rfl, hA, hR1, hR2, hEx⟩ := hX
  cases sk with
  | nil => exact trivial
  | cons x sk =>
  refine zr_dlt (sk0 := x :: sk) (fun ρ ν ws H locs ls k0 hS ix iy => ?_)
  match k0, hS.2.2.2.2.1 with
  | vx :: k1, ⟨hx1, hV⟩ =>
  obtain ⟨X, rfl⟩ := zl_I ix hx1
  refine ⟨k1, X, 0, hV, hx1, (show zr_V ρ ν (.inl 0) (.int 0) from rfl), fun kT kF => ?_⟩
  show W p l e R s m args below meth c H locs nc ns _ (F0 m (pcs.getD k 0) ls _)
  rw [hpc]
  have kT : _ → W p l e R s m args below meth c H locs nc ns _ (F0 m (pcs.getD t 0) ls k1) := kT
  have kF : _ → W p l e R s m args below meth c H locs nc ns _ (F0 m (pcs.getD (k + 1) 0) ls k1) := kF
  rw [hpt] at kT
  rw [hp1] at kF
  exact lv_if_lt hx hb hdg ht kT kF
theorem zo_icmp_ge {M : zr_M} {pcs : List Nat} {k pc t tgt : Nat} {off : Int} (hpc : pcs.getD k 0 = pc) (hp1 : pcs.getD (k + 1) 0 = pc + 3) (hpt : pcs.getD t 0 = tgt) (hdg : decode M.2.1 pc = .ok (.if_icmp .ge off, 3)) (ht : (pc : Int) + off = (tgt : Int)) : zr_Ok M pcs k (zz_ilt k 0 (t + 1)) := by
  intro E d hX st
  obtain ⟨p, l, e, R, s, m, args, below, meth, c, D, A, H0, nL, ρ0, ν0, Qc⟩ := E
  obtain ⟨own, cc, nl, ret, nm⟩ := M
  obtain ⟨sk, la, h, g, nc, ns⟩ := st
  obtain ⟨hx, hb, hml, hown, hts, hK, hlk, hr, hnm, rfl, hA, hR1, hR2, hEx⟩ := hX
  match sk with
  | [] => exact trivial
  | [_] => exact trivial
  | y :: x :: sk =>
  refine zr_dlt (sk0 := y :: x :: sk) (fun ρ ν ws H locs ls k0 hS ix iy => ?_)
  match k0, hS.2.2.2.2.1 with
  | vy :: vx :: k1, ⟨hy1, hx1, hV⟩ =>
  obtain ⟨X, rfl⟩ := zl_I ix hx1
  obtain ⟨Y, rfl⟩ := zl_I iy hy1
  refine ⟨k1, X, Y, hV, hx1, hy1, fun kT kF => ?_⟩
  show W p l e R s m args below meth c H locs nc ns _ (F0 m (pcs.getD k 0) ls _)
  rw [hpc]
  have kT : _ → W p l e R s m args below meth c H locs nc ns _ (F0 m (pcs.getD (k + 1) 0) ls k1) := kT
  have kF : _ → W p l e R s m args below meth c H locs nc ns _ (F0 m (pcs.getD t 0) ls k1) := kF
  rw [hp1] at kT
  rw [hpt] at kF
  exact lv_icmp_ge hx hb hdg ht (fun q => kF (zl_nlt q)) (fun q => kT (zl_nle q))
theorem zo_if_ge {M : zr_M} {pcs : List Nat} {k pc t tgt : Nat} {off : Int} (hpc : pcs.getD k 0 = pc) (hp1 : pcs.getD (k + 1) 0 = pc + 3) (hpt : pcs.getD t 0 = tgt) (hdg : decode M.2.1 pc = .ok (.ifCond .ge off, 3)) (ht : (pc : Int) + off = (tgt : Int)) : zr_Ok M pcs k (zz_lt0 k 0 (t + 1)) := by
  intro E d hX st
  obtain ⟨p, l, e, R, s, m, args, below, meth, c, D, A, H0, nL, ρ0, ν0, Qc⟩ := E
  obtain ⟨own, cc, nl, ret, nm⟩ := M
  obtain ⟨sk, la, h, g, nc, ns⟩ := st
  obtain ⟨hx, hb, hml, hown, hts, hK, hlk, hr, hnm, rfl, hA, hR1, hR2, hEx⟩ := hX
  cases sk with
  | nil => exact trivial
  | cons x sk =>
  refine zr_dlt (sk0 := x :: sk) (fun ρ ν ws H locs ls k0 hS ix iy => ?_)
  match k0, hS.2.2.2.2.1 with
  | vx :: k1, ⟨hx1, hV⟩ =>
  obtain ⟨X, rfl⟩ := zl_I ix hx1
  refine ⟨k1, X, 0, hV, hx1, (show zr_V ρ ν (.inl 0) (.int 0) from rfl), fun kT kF => ?_⟩
  show W p l e R s m args below meth c H locs nc ns _ (F0 m (pcs.getD k 0) ls _)
  rw [hpc]
  have kT : _ → W p l e R s m args below meth c H locs nc ns _ (F0 m (pcs.getD (k + 1) 0) ls k1) := kT
  have kF : _ → W p l e R s m args below meth c H locs nc ns _ (F0 m (pcs.getD t 0) ls k1) := kF
  rw [hp1] at kT
  rw [hpt] at kF
  exact lv_if_ge hx hb hdg ht (fun q => kF (zl_nlt q)) (fun q => kT (zl_nle q))
theorem zo_icmp_gt {M : zr_M} {pcs : List Nat} {k pc t tgt : Nat} {off : Int} (hpc : pcs.getD k 0 = pc) (hp1 : pcs.getD (k + 1) 0 = pc + 3) (hpt : pcs.getD t 0 = tgt) (hdg : decode M.2.1 pc = .ok (.if_icmp .gt off, 3)) (ht : (pc : Int) + off = (tgt : Int)) : zr_Ok M pcs k (zz_igt k (t + 1) 0) := by
  intro E d hX st
  obtain ⟨p, l, e, R, s, m, args, below, meth, c, D, A, H0, nL, ρ0, ν0, Qc⟩ := E
  obtain ⟨own, cc, nl, ret, nm⟩ := M
  obtain ⟨sk, la, h, g, nc, ns⟩ := st
  obtain ⟨hx, hb, hml, hown, hts, hK, hlk, hr, hnm, rfl, hA, hR1, hR2, hEx⟩ := hX
  match sk with
  | [] => exact trivial
  | [_] => exact trivial
  | y :: x :: sk =>
  refine zr_dlt (sk0 := y :: x :: sk) (fun ρ ν ws H locs ls k0 hS ix iy => ?_)
  match k0, hS.2.2.2.2.1 with
  | vy :: vx :: k1, ⟨hy1, hx1, hV⟩ =>
  obtain ⟨X, rfl⟩ := zl_I iy hx1
  obtain ⟨Y, rfl⟩ := zl_I ix hy1
  refine ⟨k1, Y, X, hV, hy1, hx1, fun kT kF => ?_⟩
  show W p l e R s m args below meth c H locs nc ns _ (F0 m (pcs.getD k 0) ls _)
  rw [hpc]
  have kT : _ → W p l e R s m args below meth c H locs nc ns _ (F0 m (pcs.getD t 0) ls k1) := kT
  have kF : _ → W p l e R s m args below meth c H locs nc ns _ (F0 m (pcs.getD (k + 1) 0) ls k1) := kF
  rw [hpt] at kT
  rw [hp1] at kF
  exact lv_icmp_gt hx hb hdg ht kT kF
theorem zo_if_gt {M : zr_M} {pcs : List Nat} {k pc t tgt : Nat} {off : Int} (hpc : pcs.getD k 0 = pc) (hp1 : pcs.getD (k + 1) 0 = pc + 3) (hpt : pcs.getD t 0 = tgt) (hdg : decode M.2.1 pc = .ok (.ifCond .gt off, 3)) (ht : (pc : Int) + off = (tgt : Int)) : zr_Ok M pcs k (zz_gt0 k (t + 1) 0) := by
  intro E d hX st
  obtain ⟨p, l, e, R, s, m, args, below, meth, c, D, A, H0, nL, ρ0, ν0, Qc⟩ := E
  obtain ⟨own, cc, nl, ret, nm⟩ := M
  obtain ⟨sk, la, h, g, nc, ns⟩ := st
  obtain ⟨hx, hb, hml, hown, hts, hK, hlk, hr, hnm, rfl, hA, hR1, hR2, hEx⟩ := hX
  cases sk with
  | nil => exact trivial
  | cons x sk =>
  refine zr_dlt (sk0 := x :: sk) (fun ρ ν ws H locs ls k0 hS ix iy => ?_)
  match k0, hS.2.2.2.2.1 with
  | vx :: k1, ⟨hx1, hV⟩ =>
  obtain ⟨X, rfl⟩ := zl_I iy hx1
  refine ⟨k1, 0, X, hV, (show zr_V ρ ν (.inl 0) (.int 0) from rfl), hx1, fun kT kF => ?_⟩
  show W p l e R s m args below meth c H locs nc ns _ (F0 m (pcs.getD k 0) ls _)
  rw [hpc]
  have kT : _ → W p l e R s m args below meth c H locs nc ns _ (F0 m (pcs.getD t 0) ls k1) := kT
  have kF : _ → W p l e R s m args below meth c H locs nc ns _ (F0 m (pcs.getD (k + 1) 0) ls k1) := kF
  rw [hpt] at kT
  rw [hp1] at kF
  exact lv_if_gt hx hb hdg ht kT kF
theorem zo_icmp_le {M : zr_M} {pcs : List Nat} {k pc t tgt : Nat} {off : Int} (hpc : pcs.getD k 0 = pc) (hp1 : pcs.getD (k + 1) 0 = pc + 3) (hpt : pcs.getD t 0 = tgt) (hdg : decode M.2.1 pc = .ok (.if_icmp .le off, 3)) (ht : (pc : Int) + off = (tgt : Int)) : zr_Ok M pcs k (zz_igt k 0 (t + 1)) := by
  intro E d hX st
  obtain ⟨p, l, e, R, s, m, args, below, meth, c, D, A, H0, nL, ρ0, ν0, Qc⟩ := E
  obtain ⟨own, cc, nl, ret, nm⟩ := M
  obtain ⟨sk, la, h, g, nc, ns⟩ := st
  obtain ⟨hx, hb, hml, hown, hts, hK, hlk, hr, hnm, rfl, hA, hR1, hR2, hEx⟩ := hX
  match sk with
  | [] => exact trivial
  | [_] => exact trivial
  | y :: x :: sk =>
  refine zr_dlt (sk0 := y :: x :: sk) (fun ρ ν ws H locs ls k0 hS ix iy => ?_)
  match k0, hS.2.2.2.2.1 with
  | vy :: vx :: k1, ⟨hy1, hx1, hV⟩ =>
  obtain ⟨X, rfl⟩ := zl_I iy hx1
  obtain ⟨Y, rfl⟩ := zl_I ix hy1
  refine ⟨k1, Y, X, hV, hy1, hx1, fun kT kF => ?_⟩
  show W p l e R s m args below meth c H locs nc ns _ (F0 m (pcs.getD k 0) ls _)
  rw [hpc]
  have kT : _ → W p l e R s m args below meth c H locs nc ns _ (F0 m (pcs.getD (k + 1) 0) ls k1) := kT
  have kF : _ → W p l e R s m args below meth c H locs nc ns _ (F0 m (pcs.getD t 0) ls k1) := kF
  rw [hp1] at kT
  rw [hpt] at kF
  exact lv_icmp_le hx hb hdg ht (fun q => kF (zl_nlt q)) (fun q => kT (zl_nle q))
theorem zo_if_le {M : zr_M} {pcs : List Nat} {k pc t tgt : Nat} {off : Int} (hpc : pcs.getD k 0 = pc) (hp1 : pcs.getD (k + 1) 0 = pc + 3) (hpt : pcs.getD t 0 = tgt) (hdg : decode M.2.1 pc = .ok (.ifCond .le off, 3)) (ht : (pc : Int) + off = (tgt : Int)) : zr_Ok M pcs k (zz_gt0 k 0 (t + 1)) := by
  intro E d hX st
  obtain ⟨p, l, e, R, s, m, args, below, meth, c, D, A, H0, nL, ρ0, ν0, Qc⟩ := E
  obtain ⟨own, cc, nl, ret, nm⟩ := M
  obtain ⟨sk, la, h, g, nc, ns⟩ := st
  obtain ⟨hx, hb, hml, hown, hts, hK, hlk, hr, hnm, rfl, hA, hR1, hR2, hEx⟩ := hX
  cases sk with
  | nil => exact trivial
  | cons x sk =>
  refine zr_dlt (sk0 := x :: sk) (fun ρ ν ws H locs ls k0 hS ix iy => ?_)
  match k0, hS.2.2.2.2.1 with
  | vx :: k1, ⟨hx1, hV⟩ =>
  obtain ⟨X, rfl⟩ := zl_I iy hx1
  refine ⟨k1, 0, X, hV, (show zr_V ρ ν (.inl 0) (.int 0) from rfl), hx1, fun kT kF => ?_⟩
  show W p l e R s m args below meth c H locs nc ns _ (F0 m (pcs.getD k 0) ls _)
  rw [hpc]
  have kT : _ → W p l e R s m args below meth c H locs nc ns _ (F0 m (pcs.getD (k + 1) 0) ls k1) := kT
  have kF : _ → W p l e R s m args below meth c H locs nc ns _ (F0 m (pcs.getD t 0) ls k1) := kF
  rw [hp1] at kT
  rw [hpt] at kF
  exact lv_if_le hx hb hdg ht (fun q => kF (zl_nlt q)) (fun q => kT (zl_nle q))
theorem zo_icmp_eq {M : zr_M} {pcs : List Nat} {k pc t tgt : Nat} {off : Int} (hpc : pcs.getD k 0 = pc) (hp1 : pcs.getD (k + 1) 0 = pc + 3) (hpt : pcs.getD t 0 = tgt) (hdg : decode M.2.1 pc = .ok (.if_icmp .eq off, 3)) (ht : (pc : Int) + off = (tgt : Int)) : zr_Ok M pcs k (zz_ieq k (t + 1) 0) := by
  intro E d hX st
  obtain ⟨p, l, e, R, s, m, args, below, meth, c, D, A, H0, nL, ρ0, ν0, Qc⟩ := E
  obtain ⟨own, cc, nl, ret, nm⟩ := M
  obtain ⟨sk, la, h, g, nc, ns⟩ := st
  obtain ⟨hx, hb, hml, hown, hts, hK, hlk, hr, hnm, rfl, hA, hR1, hR2, hEx⟩ := hX
  match sk with
  | [] => exact trivial
  | [_] => exact trivial
  | y :: x :: sk =>
  refine zr_deq (sk0 := y :: x :: sk) (fun ρ ν ws H locs ls k0 hS ix iy => ?_)
  match k0, hS.2.2.2.2.1 with
  | vy :: vx :: k1, ⟨hy1, hx1, hV⟩ =>
  obtain ⟨X, rfl⟩ := zl_I ix hx1
  obtain ⟨Y, rfl⟩ := zl_I iy hy1
  refine ⟨k1, X, Y, hV, hx1, hy1, fun kT kF => ?_⟩
  show W p l e R s m args below meth c H locs nc ns _ (F0 m (pcs.getD k 0) ls _)
  rw [hpc]
  have kT : _ → W p l e R s m args below meth c H locs nc ns _ (F0 m (pcs.getD t 0) ls k1) := kT
  have kF : _ → W p l e R s m args below meth c H locs nc ns _ (F0 m (pcs.getD (k + 1) 0) ls k1) := kF
  rw [hpt] at kT
  rw [hp1] at kF
  exact lv_icmp_eq hx hb hdg ht kT kF
theorem zo_if_eq {M : zr_M} {pcs : List Nat} {k pc t tgt : Nat} {off : Int} (hpc : pcs.getD k 0 = pc) (hp1 : pcs.getD (k + 1) 0 = pc + 3) (hpt : pcs.getD t 0 = tgt) (hdg : decode M.2.1 pc = .ok (.ifCond .eq off, 3)) (ht : (pc : Int) + off = (tgt : Int)) : zr_Ok M pcs k (zz_eq0 k (t + 1) 0) := by
  intro E d hX st
  obtain ⟨p, l, e, R, s, m, args, below, meth, c, D, A, H0, nL, ρ0, ν0, Qc⟩ := E
  obtain ⟨own, cc, nl, ret, nm⟩ := M
  obtain ⟨sk, la, h, g, nc, ns⟩ := st
  obtain ⟨hx, hb, hml, hown, hts, hK, hlk, hr, hnm, rfl, hA, hR1, hR2, hEx⟩ := hX
  cases sk with
  | nil => exact trivial
  | cons x sk =>
  refine zr_deq (sk0 := x :: sk) (fun ρ ν ws H locs ls k0 hS ix iy => ?_)
  match k0, hS.2.2.2.2.1 with
  | vx :: k1, ⟨hx1, hV⟩ =>
  obtain ⟨X, rfl⟩ := zl_I ix hx1
  refine ⟨k1, X, 0, hV, hx1, (show zr_V ρ ν (.inl 0) (.int 0) from rfl), fun kT kF => ?_⟩
  show W p l e R s m args below meth c H locs nc ns _ (F0 m (pcs.getD k 0) ls _)
  rw [hpc]
  have kT : _ → W p l e R s m args below meth c H locs nc ns _ (F0 m (pcs.getD t 0) ls k1) := kT
  have kF : _ → W p l e R s m args below meth c H locs nc ns _ (F0 m (pcs.getD (k + 1) 0) ls k1) := kF
  rw [hpt] at kT
  rw [hp1] at kF
  exact lv_if_eq hx hb hdg ht kT kF
theorem zo_icmp_ne {M : zr_M} {pcs : List Nat} {k pc t tgt : Nat} {off : Int} (hpc : pcs.getD k 0 = pc) (hp1 : pcs.getD (k + 1) 0 = pc + 3) (hpt : pcs.getD t 0 = tgt) (hdg : decode M.2.1 pc = .ok (.if_icmp .ne off, 3)) (ht : (pc : Int) + off = (tgt : Int)) : zr_Ok M pcs k (zz_ieq k 0 (t + 1)) := by
  intro E d hX st
  obtain ⟨p, l, e, R, s, m, args, below, meth, c, D, A, H0, nL, ρ0, ν0, Qc⟩ := E
  obtain ⟨own, cc, nl, ret, nm⟩ := M
  obtain ⟨sk, la, h, g, nc, ns⟩ := st
  obtain ⟨hx, hb, hml, hown, hts, hK, hlk, hr, hnm, rfl, hA, hR1, hR2, hEx⟩ := hX
  match sk with
  | [] => exact trivial
  | [_] => exact trivial
  | y :: x :: sk =>
  refine zr_deq (sk0 := y :: x :: sk) (fun ρ ν ws H locs ls k0 hS ix iy => ?_)
  match k0, hS.2.2.2.2.1 with
  | vy :: vx :: k1, ⟨hy1, hx1, hV⟩ =>
  obtain ⟨X, rfl⟩ := zl_I ix hx1
  obtain ⟨Y, rfl⟩ := zl_I iy hy1
  refine ⟨k1, X, Y, hV, hx1, hy1, fun kT kF => ?_⟩
  show W p l e R s m args below meth c H locs nc ns _ (F0 m (pcs.getD k 0) ls _)
  rw [hpc]
  have kT : _ → W p l e R s m args below meth c H locs nc ns _ (F0 m (pcs.getD (k + 1) 0) ls k1) := kT
  have kF : _ → W p l e R s m args below meth c H locs nc ns _ (F0 m (pcs.getD t 0) ls k1) := kF
  rw [hp1] at kT
  rw [hpt] at kF
  exact lv_icmp_ne hx hb hdg ht kF kT
theorem zo_if_ne {M : zr_M} {pcs : List Nat} {k pc t tgt : Nat} {off : Int} (hpc : pcs.getD k 0 = pc) (hp1 : pcs.getD (k + 1) 0 = pc + 3) (hpt : pcs.getD t 0 = tgt) (hdg : decode M.2.1 pc = .ok (.ifCond .ne off, 3)) (ht : (pc : Int) + off = (tgt : Int)) : zr_Ok M pcs k (zz_eq0 k 0 (t + 1)) := by
  intro E d hX st
  obtain ⟨p, l, e, R, s, m, args, below, meth, c, D, A, H0, nL, ρ0, ν0, Qc⟩ := E
  obtain ⟨own, cc, nl, ret, nm⟩ := M
  obtain ⟨sk, la, h, g, nc, ns⟩ := st
  obtain ⟨hx, hb, hml, hown, hts, hK, hlk, hr, hnm, rfl, hA, hR1, hR2, hEx⟩ := hX
  cases sk with
  | nil => exact trivial
  | cons x sk =>
  refine zr_deq (sk0 := x :: sk) (fun ρ ν ws H locs ls k0 hS ix iy => ?_)
  match k0, hS.2.2.2.2.1 with
  | vx :: k1, ⟨hx1, hV⟩ =>
  obtain ⟨X, rfl⟩ := zl_I ix hx1
  refine ⟨k1, X, 0, hV, hx1, (show zr_V ρ ν (.inl 0) (.int 0) from rfl), fun kT kF => ?_⟩
  show W p l e R s m args below meth c H locs nc ns _ (F0 m (pcs.getD k 0) ls _)
  rw [hpc]
  have kT : _ → W p l e R s m args below meth c H locs nc ns _ (F0 m (pcs.getD (k + 1) 0) ls k1) := kT
  have kF : _ → W p l e R s m args below meth c H locs nc ns _ (F0 m (pcs.getD t 0) ls k1) := kF
  rw [hp1] at kT
  rw [hpt] at kF
  exact lv_if_ne hx hb hdg ht kF kT
