/-! THE LOOPS that are walked at once -/
theorem zs_next {M : zr_M} {E : zr_E} {d : Nat} {pcs : List Nat} {k : Nat} {op : zz_Op} {st st2 : zz_S} (h : zr_Ok M pcs k op) (hX : zr_X M d E) (e : op st = .inl st2) (hn : zr_go E pcs (k + 1) st2) : zr_go E pcs k st := by
  have := h E d hX st
  rw [e] at this
  exact this hn
theorem zs_jump {M : zr_M} {E : zr_E} {d : Nat} {pcs : List Nat} {k t : Nat} {op : zz_Op} {st st2 : zz_S} (h : zr_Ok M pcs k op) (hX : zr_X M d E) (e : op st = .inr (.inl (t, st2))) (hn : zr_go E pcs t st2) : zr_go E pcs k st := by
  have := h E d hX st
  rw [e] at this
  exact this hn
theorem zs_b {n : Nat} (h : n < 2147483648) : zz_b n = n + 2147483648 := by
  unfold zz_b
  omega
theorem zs_ble {a b : Nat} (h : b < a) : Nat.ble a b = false := by
  cases hb : Nat.ble a b with
  | false => rfl
  | true => exact absurd (Nat.le_of_ble_eq_true hb) (by omega)
theorem zs_lt {self tT tF : Nat} {st : zz_S} {g : zz_G} {a b : Nat} (hb : b < 2147483648) (h : a < b) : zz_dlt self tT tF st g (.inl a) (.inl b) = zz_go tT st := by
  have e : Nat.ble (zz_b b) (zz_b a) = false := by
    rw [zs_b hb, zs_b (by omega)]
    exact zs_ble (by omega)
  unfold zz_dlt
  have e2 : Nat.ble (zz_b (zz_num (Sum.inl b : zz_V))) (zz_b (zz_num (Sum.inl a : zz_V))) = false := e
  rw [e2]
  rfl
theorem zs_ge {self tT tF : Nat} {st : zz_S} {g : zz_G} {a b : Nat} (ha : a < 2147483648) (h : b ≤ a) : zz_dlt self tT tF st g (.inl a) (.inl b) = zz_go tF st := by
  have e : Nat.ble (zz_b b) (zz_b a) = true := by
    rw [zs_b ha, zs_b (by omega)]
    exact Nat.ble_eq_true_of_le (by omega)
  unfold zz_dlt
  have e2 : Nat.ble (zz_b (zz_num (Sum.inl b : zz_V))) (zz_b (zz_num (Sum.inl a : zz_V))) = true := e
  rw [e2]
  rfl
theorem zs_ilt {self tF : Nat} {k : List zz_V} {l : List (Option zz_V)} {h : List zz_C} {g : zz_G} {c s a b : Nat} (hb : b < 2147483648) (hab : a < b) : zz_ilt self 0 tF (.inl b :: .inl a :: k, l, h, g, c, s) = .inl (k, l, h, g, c, s) := by
  unfold zz_ilt zz_icmp
  simp only
  rw [zs_lt hb hab]
  rfl
theorem zs_ige {self t : Nat} {k : List zz_V} {l : List (Option zz_V)} {h : List zz_C} {g : zz_G} {c s a b : Nat} (ha : a < 2147483648) (hab : b ≤ a) : zz_ilt self 0 (t + 1) (.inl b :: .inl a :: k, l, h, g, c, s) = .inr (.inl (t, (k, l, h, g, c, s))) := by
  unfold zz_ilt zz_icmp
  simp only
  rw [zs_ge ha hab]
  rfl
theorem zs_ast0 {self : Nat} {k : List zz_V} {l : List (Option zz_V)} {h : List zz_C} {g : zz_G} {c s a i x n d p : Nat} (hh : h[a]? = some (.inr (0, n, d, p))) (hi : i < n) (hx : x ≤ 4294967295) : zz_ast self 0 (.inl x :: .inl i :: .inr (.inl (a + 1)) :: k, l, h, g, c, s) = .inl (k, l, h.set a (.inr (0, n, d, zz_up d p i x)), g, c, s) := by
  show (bif Nat.ble x 4294967295 then (match zz_nth h a with
    | some (.inr (kd2, n, d, p)) => bif Nat.beq 0 kd2 && Nat.ble (i + 1) n then .inl (k, l, zz_set (.inr (0, n, d, zz_up d p i x)) h a, g, c, s) else zz_fail
    | _ => zz_fail) else zz_fail) = _
  rw [Nat.ble_eq_true_of_le hx, zl_nth, hh]
  show (bif Nat.beq 0 0 && Nat.ble (i + 1) n then .inl (k, l, zz_set (.inr (0, n, d, zz_up d p i x)) h a, g, c, s) else zz_fail) = _
  rw [Nat.ble_eq_true_of_le hi, zl_set]
  rfl
theorem zs_ast1 {self : Nat} {k : List zz_V} {l : List (Option zz_V)} {h : List zz_C} {g : zz_G} {c s a i x n d p : Nat} (hh : h[a]? = some (.inr (1, n, d, p))) (hi : i < n) (hx : x ≤ 1) : zz_ast self 1 (.inl x :: .inl i :: .inr (.inl (a + 1)) :: k, l, h, g, c, s) = .inl (k, l, h.set a (.inr (1, n, d, zz_up d p i x)), g, c, s) := by
  show (bif Nat.ble x 1 then (match zz_nth h a with
    | some (.inr (kd2, n, d, p)) => bif Nat.beq 1 kd2 && Nat.ble (i + 1) n then .inl (k, l, zz_set (.inr (1, n, d, zz_up d p i x)) h a, g, c, s) else zz_fail
    | _ => zz_fail) else zz_fail) = _
  rw [Nat.ble_eq_true_of_le hx, zl_nth, hh]
  show (bif Nat.beq 1 1 && Nat.ble (i + 1) n then .inl (k, l, zz_set (.inr (1, n, d, zz_up d p i x)) h a, g, c, s) else zz_fail) = _
  rw [Nat.ble_eq_true_of_le hi, zl_set]
  rfl
theorem zs_ast2 {self : Nat} {k : List zz_V} {l : List (Option zz_V)} {h : List zz_C} {g : zz_G} {c s a i x n d p : Nat} (hh : h[a]? = some (.inr (2, n, d, p))) (hi : i < n) (hx : x ≤ 18446744073709551615) : zz_ast self 2 (.inr (.inr (.inl x)) :: .inl i :: .inr (.inl (a + 1)) :: k, l, h, g, c, s) = .inl (k, l, h.set a (.inr (2, n, d, zz_up d p i x)), g, c, s) := by
  show (bif Nat.ble x 18446744073709551615 then (match zz_nth h a with
    | some (.inr (kd2, n, d, p)) => bif Nat.beq 2 kd2 && Nat.ble (i + 1) n then .inl (k, l, zz_set (.inr (2, n, d, zz_up d p i x)) h a, g, c, s) else zz_fail
    | _ => zz_fail) else zz_fail) = _
  rw [Nat.ble_eq_true_of_le hx, zl_nth, hh]
  show (bif Nat.beq 2 2 && Nat.ble (i + 1) n then .inl (k, l, zz_set (.inr (2, n, d, zz_up d p i x)) h a, g, c, s) else zz_fail) = _
  rw [Nat.ble_eq_true_of_le hi, zl_set]
  rfl
theorem zs_get {ci j a : Nat} {k : List zz_V} {l : List (Option zz_V)} {h : List zz_C} {g : zz_G} {c s : Nat} {fs : List zz_V} {v : zz_V} (hh : h[a]? = some (.inl (ci, fs))) (hf : fs[j]? = some v) : zz_get ci j (.inr (.inl (a + 1)) :: k, l, h, g, c, s) = .inl (v :: k, l, h, g, c, s) := by
  unfold zz_get zz_pred
  simp only
  rw [zl_nth, hh]
  simp only
  rw [Nat.beq_refl, zl_nth, hf]
  rfl
/-- a cell told otherwise -/
theorem zr_conv {E : zr_E} {pc : Nat} {sk : List zz_V} {la : List (Option zz_V)} {h : List zz_C} {g : zz_G} {nc ns a : Nat} {c1 c2 : zz_C} (hl : a < h.length) (hc : ∀ (U : State) (ρ : List Nat) (ν : List Int32) (e : va_E), zr_C U ρ ν c1 e → zr_C U ρ ν c2 e) (hW : zr_W E pc (sk, la, h.set a c2, g, nc, ns)) : zr_W E pc (sk, la, h.set a c1, g, nc, ns) := by
  obtain ⟨p, l, e, R, s, m, args, below, meth, c, D, A, H0, nL, ρ0, ν0, Qc⟩ := E
  refine zr_W.of hW rfl (fun ρ ν ws H locs ls k hS => zr_W.use (ρ := ρ) (ν := ν) (ws := ws) hW ?_)
  refine ⟨hS.1, hS.2.1, ?_, hS.2.2.2⟩
  have hH : zr_H s ρ ν (h.set a c1) ws := hS.2.2.1
  show zr_H s ρ ν (h.set a c2) ws
  refine ⟨hH.1, by have := hH.2.1; simpa using this, fun k2 c hk => ?_⟩
  by_cases hka : a = k2
  · subst hka
    have hk : (h.set a c2)[a]? = some c := hk
    rw [List.getElem?_set_self hl] at hk
    cases hk
    obtain ⟨q, e, h1, h2⟩ := hH.2.2 a c1 (List.getElem?_set_self hl)
    exact ⟨q, e, h1, hc _ _ _ _ h2⟩
  · have hk : (h.set a c2)[k2]? = some c := hk
    rw [List.getElem?_set_ne hka] at hk
    exact hH.2.2 k2 c (by rw [List.getElem?_set_ne hka]; exact hk)
/-- m elements from i on become x -/
def zf_up (d x : Nat) : Nat → Nat → Nat → Nat
  | p, _, 0 => p
  | p, i, m + 1 => zf_up d x (zz_up d p i x) (i + 1) m
theorem zf_el {d x : Nat} (hd : d < 18446744073709551616) (hx : x < 18446744073709551616) : ∀ (m i p : Nat), (∀ j, j < i → zz_el d p j = x) → ∀ j, j < i + m → zz_el d (zf_up d x p i m) j = x
  | 0, i, p, h, j, hj => h j (by omega)
  | m + 1, i, p, h, j, hj => by
    refine zf_el hd hx m (i + 1) (zz_up d p i x) (fun j2 hj2 => ?_) j (by omega)
    rw [zn_up hd hx]
    by_cases hji : j2 = i
    · rw [if_pos hji]
    · rw [if_neg hji]
      exact h j2 (by omega)
theorem zl_elx (x i : Nat) : zz_el x 0 i = x := by
  show ((0 >>> (64 * i)) % 18446744073709551616) ^^^ x = x
  simp
theorem zf_conv {kd n d x p : Nat} (hkd : kd < 3) (hx : x < 18446744073709551616) (U : State) (ρ : List Nat) (ν : List Int32) (e : va_E) (h : zr_C U ρ ν (.inr (kd, n, d, zf_up d x p 0 n)) e) : zr_C U ρ ν (.inr (kd, n, x, 0)) e := by
  match e, h with
  | .inl (cA, y), ⟨h1, h2, h3⟩ =>
    have hel : ∀ j, j < n → zz_el d (zf_up d x p 0 n) j = zz_el x 0 j := fun j hj => by
      rw [zl_elx]
      exact zf_el h1.2 hx n 0 p (fun j hj => by omega) j (by omega)
    refine ⟨⟨h1.1, hx⟩, h2, ?_⟩
    rcases h3 with ⟨e, f, rfl, hf⟩ | ⟨e, f, rfl, hf⟩ | ⟨e, f, rfl, hf⟩ | ⟨e, f, rfl, hf⟩
    · exact Or.inl ⟨e, f, rfl, fun i hi => by rw [hf i hi, hel i hi]⟩
    · exact Or.inr (Or.inl ⟨e, f, rfl, fun i hi => by rw [hf i hi, hel i hi]⟩)
    · exact Or.inr (Or.inr (Or.inl ⟨e, f, rfl, fun i hi => by rw [hf i hi, hel i hi]⟩))
    · omega
section ZHF
variable {M : zr_M} {pcs : List Nat} {k t : Nat} {E : zr_E} {dd : Nat}
theorem zf_incI {self : Nat} {r : Option zz_V} {x i n : Nat} {h : List zz_C} {g : zz_G} {c s : Nat} (hi : i < 2147483648) : zz_inc self 2 1 ([], [r, some (.inl x), some (.inl i), some (.inl n)], h, g, c, s) = .inl ([], [r, some (.inl x), some (.inl (i + 1)), some (.inl n)], h, g, c, s) := by
  have e : (i + 1) % 4294967296 = i + 1 := Nat.mod_eq_of_lt (by omega)
  exact congrArg (fun z => (.inl ([], [r, some (.inl x), some (.inl z), some (.inl n)], h, g, c, s) : zz_R)) e
theorem zf_incJ {self : Nat} {r : Option zz_V} {x i n : Nat} {h : List zz_C} {g : zz_G} {c s : Nat} (hi : i < 2147483648) : zz_inc self 3 1 ([], [r, some (.inr (.inr (.inl x))), none, some (.inl i), some (.inl n)], h, g, c, s) = .inl ([], [r, some (.inr (.inr (.inl x))), none, some (.inl (i + 1)), some (.inl n)], h, g, c, s) := by
  have e : (i + 1) % 4294967296 = i + 1 := Nat.mod_eq_of_lt (by omega)
  exact congrArg (fun z => (.inl ([], [r, some (.inr (.inr (.inl x))), none, some (.inl z), some (.inl n)], h, g, c, s) : zz_R)) e
theorem zf_incZ {self a i : Nat} {lr : List (Option zz_V)} {h : List zz_C} {g : zz_G} {c s : Nat} (hi : i < 2147483648) : zz_inc self 1 1 ([], some (.inr (.inl a)) :: some (.inl i) :: lr, h, g, c, s) = .inl ([], some (.inr (.inl a)) :: some (.inl (i + 1)) :: lr, h, g, c, s) := by
  have e : (i + 1) % 4294967296 = i + 1 := Nat.mod_eq_of_lt (by omega)
  exact congrArg (fun z => (.inl ([], some (.inr (.inl a)) :: some (.inl z) :: lr, h, g, c, s) : zz_R)) e
theorem zf_loopI (hX : zr_X M dd E) (h0 : zr_Ok M pcs k (zz_load zz_isI 2)) (h1 : zr_Ok M pcs (k + 1) (zz_load zz_isI 3)) (h2 : zr_Ok M pcs (k + 2) (zz_ilt (k + 2) 0 (t + 1))) (h3 : zr_Ok M pcs (k + 3) (zz_load zz_isA 0)) (h4 : zr_Ok M pcs (k + 4) (zz_load zz_isI 2)) (h5 : zr_Ok M pcs (k + 5) (zz_load zz_isI 1)) (h6 : zr_Ok M pcs (k + 6) (zz_ast (k + 6) 0)) (h7 : zr_Ok M pcs (k + 7) (zz_inc (k + 7) 2 1)) (h8 : zr_Ok M pcs (k + 8) (zz_goto k))
    {a x n d : Nat} {h : List zz_C} {g : zz_G} {c s : Nat} (hl : a < h.length) (hx : x ≤ 4294967295) (hn : n < 2147483648) : ∀ (m i p : Nat), i + m = n → zr_go E pcs t ([], [some (.inr (.inl (a + 1))), some (.inl x), some (.inl n), some (.inl n)], h.set a (.inr (0, n, d, zf_up d x p i m)), g, c, s) → zr_go E pcs k ([], [some (.inr (.inl (a + 1))), some (.inl x), some (.inl i), some (.inl n)], h.set a (.inr (0, n, d, p)), g, c, s)
  | 0, i, p, hi, hf => by
    have hi : i = n := by omega
    subst hi
    exact zs_next h0 hX rfl (zs_next h1 hX rfl (zs_jump h2 hX (zs_ige hn (Nat.le_refl _)) hf))
  | m + 1, i, p, hi, hf => by
    refine zs_next h0 hX rfl (zs_next h1 hX rfl (zs_next h2 hX (zs_ilt hn (by omega)) (zs_next h3 hX rfl (zs_next h4 hX rfl (zs_next h5 hX rfl (zs_next h6 hX (zs_ast0 (List.getElem?_set_self hl) (by omega) hx) (zs_next h7 hX (zf_incI (by omega)) (zs_jump h8 hX rfl ?_))))))))
    rw [List.set_set]
    exact zf_loopI hX h0 h1 h2 h3 h4 h5 h6 h7 h8 hl hx hn m (i + 1) (zz_up d p i x) (by omega) hf
theorem zf_loopJ (hX : zr_X M dd E) (h0 : zr_Ok M pcs k (zz_load zz_isI 3)) (h1 : zr_Ok M pcs (k + 1) (zz_load zz_isI 4)) (h2 : zr_Ok M pcs (k + 2) (zz_ilt (k + 2) 0 (t + 1))) (h3 : zr_Ok M pcs (k + 3) (zz_load zz_isA 0)) (h4 : zr_Ok M pcs (k + 4) (zz_load zz_isI 3)) (h5 : zr_Ok M pcs (k + 5) (zz_load zz_isJ 1)) (h6 : zr_Ok M pcs (k + 6) (zz_ast (k + 6) 2)) (h7 : zr_Ok M pcs (k + 7) (zz_inc (k + 7) 3 1)) (h8 : zr_Ok M pcs (k + 8) (zz_goto k))
    {a x n d : Nat} {h : List zz_C} {g : zz_G} {c s : Nat} (hl : a < h.length) (hx : x ≤ 18446744073709551615) (hn : n < 2147483648) : ∀ (m i p : Nat), i + m = n → zr_go E pcs t ([], [some (.inr (.inl (a + 1))), some (.inr (.inr (.inl x))), none, some (.inl n), some (.inl n)], h.set a (.inr (2, n, d, zf_up d x p i m)), g, c, s) → zr_go E pcs k ([], [some (.inr (.inl (a + 1))), some (.inr (.inr (.inl x))), none, some (.inl i), some (.inl n)], h.set a (.inr (2, n, d, p)), g, c, s)
  | 0, i, p, hi, hf => by
    have hi : i = n := by omega
    subst hi
    exact zs_next h0 hX rfl (zs_next h1 hX rfl (zs_jump h2 hX (zs_ige hn (Nat.le_refl _)) hf))
  | m + 1, i, p, hi, hf => by
    refine zs_next h0 hX rfl (zs_next h1 hX rfl (zs_next h2 hX (zs_ilt hn (by omega)) (zs_next h3 hX rfl (zs_next h4 hX rfl (zs_next h5 hX rfl (zs_next h6 hX (zs_ast2 (List.getElem?_set_self hl) (by omega) hx) (zs_next h7 hX (zf_incJ (by omega)) (zs_jump h8 hX rfl ?_))))))))
    rw [List.set_set]
    exact zf_loopJ hX h0 h1 h2 h3 h4 h5 h6 h7 h8 hl hx hn m (i + 1) (zz_up d p i x) (by omega) hf
theorem zf_loopZ {j N : Nat} (hX : zr_X M dd E) (h0 : zr_Ok M pcs k (zz_load zz_isI 1)) (h1 : zr_Ok M pcs (k + 1) (zz_push (.inl N))) (h2 : zr_Ok M pcs (k + 2) (zz_ilt (k + 2) 0 (t + 1))) (h3 : zr_Ok M pcs (k + 3) (zz_load zz_isA 0)) (h4 : zr_Ok M pcs (k + 4) (zz_get 6 j)) (h5 : zr_Ok M pcs (k + 5) (zz_load zz_isI 1)) (h6 : zr_Ok M pcs (k + 6) (zz_push (.inl 0))) (h7 : zr_Ok M pcs (k + 7) (zz_ast (k + 7) 1)) (h8 : zr_Ok M pcs (k + 8) (zz_inc (k + 8) 1 1)) (h9 : zr_Ok M pcs (k + 9) (zz_goto k))
    {a b d : Nat} {fs : List zz_V} {lr : List (Option zz_V)} {h : List zz_C} {g : zz_G} {c s : Nat} (hl : b < h.length) (hab : b ≠ a) (ha : h[a]? = some (.inl (6, fs))) (hf : fs[j]? = some (.inr (.inl (b + 1)))) (hn : N < 2147483648) : ∀ (m i p : Nat), i + m = N → zr_go E pcs t ([], some (.inr (.inl (a + 1))) :: some (.inl N) :: lr, h.set b (.inr (1, N, d, zf_up d 0 p i m)), g, c, s) → zr_go E pcs k ([], some (.inr (.inl (a + 1))) :: some (.inl i) :: lr, h.set b (.inr (1, N, d, p)), g, c, s)
  | 0, i, p, hi, hfn => by
    have hi : i = N := by omega
    subst hi
    exact zs_next h0 hX rfl (zs_next h1 hX rfl (zs_jump h2 hX (zs_ige hn (Nat.le_refl _)) hfn))
  | m + 1, i, p, hi, hfn => by
    refine zs_next h0 hX rfl (zs_next h1 hX rfl (zs_next h2 hX (zs_ilt hn (by omega)) (zs_next h3 hX rfl (zs_next h4 hX (zs_get (by rw [List.getElem?_set_ne hab]; exact ha) hf) (zs_next h5 hX rfl (zs_next h6 hX rfl (zs_next h7 hX (zs_ast1 (List.getElem?_set_self hl) (by omega) (by decide)) (zs_next h8 hX (zf_incZ (by omega)) (zs_jump h9 hX rfl ?_)))))))))
    rw [List.set_set]
    exact zf_loopZ hX h0 h1 h2 h3 h4 h5 h6 h7 h8 h9 hl hab ha hf hn m (i + 1) (zz_up d p i 0) (by omega) hfn
end ZHF
theorem zl_setself {α : Type} {l : List α} {a : Nat} {x : α} (h : l[a]? = some x) : l.set a x = l := by
  refine List.ext_getElem? fun i => ?_
  by_cases hi : a = i
  · subst hi
    rw [List.getElem?_set_self (List.getElem?_eq_some_iff.mp h).1, h]
  · rw [List.getElem?_set_ne hi]
theorem zo_hfi {M : zr_M} {pcs : List Nat} {k t : Nat} (h0 : zr_Ok M pcs k (zz_load zz_isI 2)) (h1 : zr_Ok M pcs (k + 1) (zz_load zz_isI 3)) (h2 : zr_Ok M pcs (k + 2) (zz_ilt (k + 2) 0 (t + 1))) (h3 : zr_Ok M pcs (k + 3) (zz_load zz_isA 0)) (h4 : zr_Ok M pcs (k + 4) (zz_load zz_isI 2)) (h5 : zr_Ok M pcs (k + 5) (zz_load zz_isI 1)) (h6 : zr_Ok M pcs (k + 6) (zz_ast (k + 6) 0)) (h7 : zr_Ok M pcs (k + 7) (zz_inc (k + 7) 2 1)) (h8 : zr_Ok M pcs (k + 8) (zz_goto k)) : zr_Ok M pcs k (zz_hfi t) := by
  intro E dd hX st
  unfold zz_hfi
  split
  · rename_i a x i n h g c s
    cases a with
    | zero => exact zr_fail
    | succ a =>
    show zr_res E dd pcs k _ (match zz_nth h a with
      | some (.inr (kd, n2, _, _)) => bif Nat.beq kd 0 && (Nat.beq n2 n && (Nat.beq i 0 && (Nat.ble x 4294967295 && Nat.ble n 1000000))) then .inr (.inl (t, ([], [some (.inr (.inl (a + 1))), some (.inl x), some (.inl n), some (.inl n)], zz_set (.inr (0, n, x, 0)) h a, g, c, s))) else zz_fail
      | _ => zz_fail)
    rw [zl_nth]
    match hc : h[a]? with
    | none => exact zr_fail
    | some (.inl _) => exact zr_fail
    | some (.inr (kd, n2, d, p)) =>
    refine zr_bif (fun hb => ?_) (fun _ => zr_fail)
    simp only [Bool.and_eq_true] at hb
    obtain ⟨e1, e2, e3, e4, e5⟩ := hb
    have e1 := Nat.eq_of_beq_eq_true e1
    have e2 := Nat.eq_of_beq_eq_true e2
    have e3 := Nat.eq_of_beq_eq_true e3
    have e4 := Nat.le_of_ble_eq_true e4
    have e5 := Nat.le_of_ble_eq_true e5
    subst e1 e2 e3
    rw [zl_set]
    intro hn
    have hl := (List.getElem?_eq_some_iff.mp hc).1
    have := zf_loopI (d := d) hX h0 h1 h2 h3 h4 h5 h6 h7 h8 (g := g) (c := c) (s := s) hl e4 (by omega) n2 0 p (by omega) (zr_conv hl (zf_conv (by decide) (by omega)) hn)
    rw [zl_setself hc] at this
    exact this
  · exact zr_fail
theorem zo_hfj {M : zr_M} {pcs : List Nat} {k t : Nat} (h0 : zr_Ok M pcs k (zz_load zz_isI 3)) (h1 : zr_Ok M pcs (k + 1) (zz_load zz_isI 4)) (h2 : zr_Ok M pcs (k + 2) (zz_ilt (k + 2) 0 (t + 1))) (h3 : zr_Ok M pcs (k + 3) (zz_load zz_isA 0)) (h4 : zr_Ok M pcs (k + 4) (zz_load zz_isI 3)) (h5 : zr_Ok M pcs (k + 5) (zz_load zz_isJ 1)) (h6 : zr_Ok M pcs (k + 6) (zz_ast (k + 6) 2)) (h7 : zr_Ok M pcs (k + 7) (zz_inc (k + 7) 3 1)) (h8 : zr_Ok M pcs (k + 8) (zz_goto k)) : zr_Ok M pcs k (zz_hfj t) := by
  intro E dd hX st
  unfold zz_hfj
  split
  · rename_i a x i n h g c s
    cases a with
    | zero => exact zr_fail
    | succ a =>
    show zr_res E dd pcs k _ (match zz_nth h a with
      | some (.inr (kd, n2, _, _)) => bif Nat.beq kd 2 && (Nat.beq n2 n && (Nat.beq i 0 && (Nat.ble x 18446744073709551615 && Nat.ble n 1000000))) then .inr (.inl (t, ([], [some (.inr (.inl (a + 1))), some (.inr (.inr (.inl x))), none, some (.inl n), some (.inl n)], zz_set (.inr (2, n, x, 0)) h a, g, c, s))) else zz_fail
      | _ => zz_fail)
    rw [zl_nth]
    match hc : h[a]? with
    | none => exact zr_fail
    | some (.inl _) => exact zr_fail
    | some (.inr (kd, n2, d, p)) =>
    refine zr_bif (fun hb => ?_) (fun _ => zr_fail)
    simp only [Bool.and_eq_true] at hb
    obtain ⟨e1, e2, e3, e4, e5⟩ := hb
    have e1 := Nat.eq_of_beq_eq_true e1
    have e2 := Nat.eq_of_beq_eq_true e2
    have e3 := Nat.eq_of_beq_eq_true e3
    have e4 := Nat.le_of_ble_eq_true e4
    have e5 := Nat.le_of_ble_eq_true e5
    subst e1 e2 e3
    rw [zl_set]
    intro hn
    have hl := (List.getElem?_eq_some_iff.mp hc).1
    have := zf_loopJ (d := d) hX h0 h1 h2 h3 h4 h5 h6 h7 h8 (g := g) (c := c) (s := s) hl e4 (by omega) n2 0 p (by omega) (zr_conv hl (zf_conv (by decide) (by omega)) hn)
    rw [zl_setself hc] at this
    exact this
  · exact zr_fail
theorem zo_hz {M : zr_M} {pcs : List Nat} {k t j N : Nat} (hN : N < 2147483648) (h0 : zr_Ok M pcs k (zz_load zz_isI 1)) (h1 : zr_Ok M pcs (k + 1) (zz_push (.inl N))) (h2 : zr_Ok M pcs (k + 2) (zz_ilt (k + 2) 0 (t + 1))) (h3 : zr_Ok M pcs (k + 3) (zz_load zz_isA 0)) (h4 : zr_Ok M pcs (k + 4) (zz_get 6 j)) (h5 : zr_Ok M pcs (k + 5) (zz_load zz_isI 1)) (h6 : zr_Ok M pcs (k + 6) (zz_push (.inl 0))) (h7 : zr_Ok M pcs (k + 7) (zz_ast (k + 7) 1)) (h8 : zr_Ok M pcs (k + 8) (zz_inc (k + 8) 1 1)) (h9 : zr_Ok M pcs (k + 9) (zz_goto k)) : zr_Ok M pcs k (zz_hz j N t) := by
  intro E dd hX st
  unfold zz_hz
  split
  · rename_i a i lr h g c s
    cases a with
    | zero => exact zr_fail
    | succ a =>
    show zr_res E dd pcs k _ (match zz_nth h a with
      | some (.inl (d, fs)) => (match zz_nth fs j with
        | some (.inr (.inl b)) => zz_pred b (fun b => match zz_nth h b with
          | some (.inr (kd, n, _, _)) => bif Nat.beq d 6 && (Nat.beq kd 1 && (Nat.beq n N && Nat.beq i 0)) then .inr (.inl (t, ([], some (.inr (.inl (a + 1))) :: some (.inl N) :: lr, zz_set (.inr (1, N, 0, 0)) h b, g, c, s))) else zz_fail
          | _ => zz_fail)
        | _ => zz_fail)
      | _ => zz_fail)
    rw [zl_nth]
    match ha : h[a]? with
    | none => exact zr_fail
    | some (.inr _) => exact zr_fail
    | some (.inl (d6, fs)) =>
    simp only
    rw [zl_nth]
    match hf : fs[j]? with
    | none => exact zr_fail
    | some (.inl _) => exact zr_fail
    | some (.inr (.inr (.inl _))) => exact zr_fail
    | some (.inr (.inr (.inr _))) => exact zr_fail
    | some (.inr (.inl 0)) => exact zr_fail
    | some (.inr (.inl (b + 1))) =>
    show zr_res E dd pcs k _ (match zz_nth h b with
      | some (.inr (kd, n, _, _)) => bif Nat.beq d6 6 && (Nat.beq kd 1 && (Nat.beq n N && Nat.beq i 0)) then .inr (.inl (t, ([], some (.inr (.inl (a + 1))) :: some (.inl N) :: lr, zz_set (.inr (1, N, 0, 0)) h b, g, c, s))) else zz_fail
      | _ => zz_fail)
    rw [zl_nth]
    match hc : h[b]? with
    | none => exact zr_fail
    | some (.inl _) => exact zr_fail
    | some (.inr (kd, n2, d, p)) =>
    refine zr_bif (fun hb => ?_) (fun _ => zr_fail)
    simp only [Bool.and_eq_true] at hb
    obtain ⟨e0, e1, e2, e3⟩ := hb
    have e0 := Nat.eq_of_beq_eq_true e0
    have e1 := Nat.eq_of_beq_eq_true e1
    have e2 := Nat.eq_of_beq_eq_true e2
    have e3 := Nat.eq_of_beq_eq_true e3
    subst e0 e1 e2 e3
    rw [zl_set]
    intro hn
    have hl := (List.getElem?_eq_some_iff.mp hc).1
    have hab : b ≠ a := fun q => by
      subst q
      rw [ha] at hc
      cases hc
    have := zf_loopZ (d := d) hX h0 h1 h2 h3 h4 h5 h6 h7 h8 h9 (g := g) (c := c) (s := s) (lr := lr) hl hab ha hf hN n2 0 p (by omega) (zr_conv hl (zf_conv (by decide) (by omega)) hn)
    rw [zl_setself hc] at this
    exact this
  · exact zr_fail
