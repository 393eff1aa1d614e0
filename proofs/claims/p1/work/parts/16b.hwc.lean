/-! THE LOOP over a word's digits -/
theorem zs_eqT {self tT tF : Nat} {st : zz_S} {g : zz_G} {a : Nat} : zz_deq self tT tF st g (.inl a) (.inl a) = zz_go tT st := by
  unfold zz_deq
  have e2 : Nat.beq (zz_b (zz_num (Sum.inl a : zz_V))) (zz_b (zz_num (Sum.inl a : zz_V))) = true := Nat.beq_refl _
  rw [e2]
  rfl
theorem zs_eqF {self tT tF : Nat} {st : zz_S} {g : zz_G} {a b : Nat} (ha : a < 2147483648) (hb : b < 2147483648) (h : a ≠ b) : zz_deq self tT tF st g (.inl a) (.inl b) = zz_go tF st := by
  have e : Nat.beq (zz_b a) (zz_b b) = false := by
    rw [zs_b ha, zs_b hb]
    cases hc : Nat.beq (a + 2147483648) (b + 2147483648) with
    | false => rfl
    | true => exact absurd (Nat.eq_of_beq_eq_true hc) (by omega)
  unfold zz_deq
  have e2 : Nat.beq (zz_b (zz_num (Sum.inl a : zz_V))) (zz_b (zz_num (Sum.inl b : zz_V))) = false := e
  rw [e2]
  rfl
theorem zs_rem {self : Nat} {k : List zz_V} {l : List (Option zz_V)} {h : List zz_C} {g : zz_G} {c s r : Nat} (hr : r < 2147483648) : zz_rem self (.inl 10 :: .inl r :: k, l, h, g, c, s) = .inl (.inl (r % 10) :: k, l, h, g, c, s) := by
  have e : zz_remn r 10 = some (r % 10) := by
    unfold zz_remn
    rw [Nat.ble_eq_true_of_le (show r ≤ 2147483647 by omega)]
    rfl
  show (match zz_remn r 10 with
    | some n => (.inl (.inl n :: k, l, h, g, c, s) : zz_R)
    | none => zz_fail) = _
  rw [e]
theorem zs_div {self : Nat} {k : List zz_V} {l : List (Option zz_V)} {h : List zz_C} {g : zz_G} {c s r : Nat} (hr : r < 2147483648) : zz_div self (.inl 10 :: .inl r :: k, l, h, g, c, s) = .inl (.inl (r / 10) :: k, l, h, g, c, s) := by
  have e : zz_divn r 10 = some (r / 10) := by
    unfold zz_divn
    rw [Nat.ble_eq_true_of_le (show r ≤ 2147483647 by omega)]
    rfl
  show (match zz_divn r 10 with
    | some n => (.inl (.inl n :: k, l, h, g, c, s) : zz_R)
    | none => zz_fail) = _
  rw [e]
/-- fewer locals known -/
theorem zr_weak {E : zr_E} {pc : Nat} {sk : List zz_V} {la la2 : List (Option zz_V)} {h : List zz_C} {g : zz_G} {nc ns : Nat} (hl : ∀ (k : Nat) (a : zz_V), la2[k]? = some (some a) → la[k]? = some (some a)) (hW : zr_W E pc (sk, la2, h, g, nc, ns)) : zr_W E pc (sk, la, h, g, nc, ns) := by
  obtain ⟨p, l, e, R, s, m, args, below, meth, c, D, A, H0, nL, ρ0, ν0, Qc⟩ := E
  refine zr_W.of hW rfl (fun ρ ν ws H locs ls k hS => zr_W.use (ρ := ρ) (ν := ν) (ws := ws) hW ?_)
  exact ⟨hS.1, hS.2.1, hS.2.2.1, ⟨hS.2.2.2.1.1, hS.2.2.2.1.2.1, fun k a hk => hS.2.2.2.1.2.2 k a (hl k a hk)⟩, hS.2.2.2.2⟩
/-- all digits are 1 -/
def zw_on : Nat → Nat → Bool
  | 0, _ => true
  | n + 1, r => bif Nat.beq r 0 then true else Nat.beq (r % 10) 1 && zw_on n (r / 10)
def zw_rep : Nat → Nat
  | 0 => 0
  | n + 1 => 10 * zw_rep n + 1
theorem zw_ones : ∀ {n r : Nat}, r < 10 ^ n → zw_on n r = true → ∃ j, j ≤ n ∧ r = zw_rep j
  | 0, r, hr, _ => ⟨0, Nat.le_refl _, by have : r < 1 := hr; show r = 0; omega⟩
  | n + 1, r, hr, h => by
    by_cases h0 : r = 0
    · exact ⟨0, Nat.zero_le _, h0⟩
    · unfold zw_on at h
      have hb : Nat.beq r 0 = false := by
        cases hc : Nat.beq r 0 with
        | false => rfl
        | true => exact absurd (Nat.eq_of_beq_eq_true hc) h0
      rw [hb] at h
      have h : (Nat.beq (r % 10) 1 && zw_on n (r / 10)) = true := h
      rw [Bool.and_eq_true] at h
      have h1 := Nat.eq_of_beq_eq_true h.1
      obtain ⟨j, hj, e⟩ := zw_ones (n := n) (r := r / 10) (by rw [Nat.pow_succ] at hr; omega) h.2
      refine ⟨j + 1, by omega, ?_⟩
      show r = 10 * zw_rep j + 1
      omega
theorem zw_v0 : nI (zw_rep 0) = 0 := by decide +kernel
theorem zw_v1 : nI (zw_rep 1) = 1 := by decide +kernel
theorem zw_v2 : nI (zw_rep 2) = 11 := by decide +kernel
theorem zw_v3 : nI (zw_rep 3) = 111 := by decide +kernel
theorem zw_v4 : nI (zw_rep 4) = 1111 := by decide +kernel
theorem zw_v5 : nI (zw_rep 5) = 11111 := by decide +kernel
theorem zw_v6 : nI (zw_rep 6) = 111111 := by decide +kernel
theorem zw_v7 : nI (zw_rep 7) = 1111111 := by decide +kernel
theorem zw_v8 : nI (zw_rep 8) = 11111111 := by decide +kernel
theorem zw_v9 : nI (zw_rep 9) = 111111111 := by decide +kernel
theorem zw_v10 : nI (zw_rep 10) = 1111111111 := by decide +kernel
theorem zw_bad {r : Nat} (hr : r < 2147483648) (hb : zr_bad (nI r)) : zw_on 10 r = false := by
  cases h : zw_on 10 r with
  | false => rfl
  | true =>
    obtain ⟨j, hj, e⟩ := zw_ones (n := 10) (r := r) (by omega) h
    obtain ⟨-, b0, b1, b2, b3, b4, b5, b6, b7, b8, b9, b10⟩ := hb
    have hjj : j = 0 ∨ j = 1 ∨ j = 2 ∨ j = 3 ∨ j = 4 ∨ j = 5 ∨ j = 6 ∨ j = 7 ∨ j = 8 ∨ j = 9 ∨ j = 10 := by omega
    rcases hjj with q | q | q | q | q | q | q | q | q | q | q
    · exact absurd (by rw [e, q]; exact zw_v0) b0
    · exact absurd (by rw [e, q]; exact zw_v1) b1
    · exact absurd (by rw [e, q]; exact zw_v2) b2
    · exact absurd (by rw [e, q]; exact zw_v3) b3
    · exact absurd (by rw [e, q]; exact zw_v4) b4
    · exact absurd (by rw [e, q]; exact zw_v5) b5
    · exact absurd (by rw [e, q]; exact zw_v6) b6
    · exact absurd (by rw [e, q]; exact zw_v7) b7
    · exact absurd (by rw [e, q]; exact zw_v8) b8
    · exact absurd (by rw [e, q]; exact zw_v9) b9
    · exact absurd (by rw [e, q]; exact zw_v10) b10
theorem zs_gt0T {self t : Nat} {k : List zz_V} {l : List (Option zz_V)} {h : List zz_C} {g : zz_G} {c s a : Nat} (ha : a < 2147483648) (h0 : 0 < a) : zz_gt0 self 0 t (.inl a :: k, l, h, g, c, s) = .inl (k, l, h, g, c, s) := by
  unfold zz_gt0 zz_if0
  simp only
  rw [zs_lt ha h0]
  rfl
theorem zs_gt0F {self t : Nat} {k : List zz_V} {l : List (Option zz_V)} {h : List zz_C} {g : zz_G} {c s : Nat} : zz_gt0 self 0 (t + 1) (.inl 0 :: k, l, h, g, c, s) = .inr (.inl (t, (k, l, h, g, c, s))) := by
  unfold zz_gt0 zz_if0
  simp only
  rw [zs_ge (by omega) (Nat.le_refl _)]
  rfl
theorem zs_eq0T {self t : Nat} {k : List zz_V} {l : List (Option zz_V)} {h : List zz_C} {g : zz_G} {c s : Nat} : zz_eq0 self (t + 1) 0 (.inl 0 :: k, l, h, g, c, s) = .inr (.inl (t, (k, l, h, g, c, s))) := by
  unfold zz_eq0 zz_if0
  simp only
  rw [zs_eqT]
  rfl
theorem zs_eq0F {self t : Nat} {k : List zz_V} {l : List (Option zz_V)} {h : List zz_C} {g : zz_G} {c s a : Nat} (ha : a < 2147483648) (h0 : a ≠ 0) : zz_eq0 self t 0 (.inl a :: k, l, h, g, c, s) = .inl (k, l, h, g, c, s) := by
  unfold zz_eq0 zz_if0
  simp only
  rw [zs_eqF ha (by omega) h0]
  rfl
theorem zs_iltT {self t : Nat} {k : List zz_V} {l : List (Option zz_V)} {h : List zz_C} {g : zz_G} {c s a b : Nat} (hb : b < 2147483648) (hab : a < b) : zz_ilt self (t + 1) 0 (.inl b :: .inl a :: k, l, h, g, c, s) = .inr (.inl (t, (k, l, h, g, c, s))) := by
  unfold zz_ilt zz_icmp
  simp only
  rw [zs_lt hb hab]
  rfl
theorem zs_iltF {self t : Nat} {k : List zz_V} {l : List (Option zz_V)} {h : List zz_C} {g : zz_G} {c s a b : Nat} (ha : a < 2147483648) (hab : b ≤ a) : zz_ilt self t 0 (.inl b :: .inl a :: k, l, h, g, c, s) = .inl (k, l, h, g, c, s) := by
  unfold zz_ilt zz_icmp
  simp only
  rw [zs_ge ha hab]
  rfl
theorem zs_igtT {self t : Nat} {k : List zz_V} {l : List (Option zz_V)} {h : List zz_C} {g : zz_G} {c s a b : Nat} (ha : a < 2147483648) (hab : b < a) : zz_igt self (t + 1) 0 (.inl b :: .inl a :: k, l, h, g, c, s) = .inr (.inl (t, (k, l, h, g, c, s))) := by
  unfold zz_igt zz_icmp
  simp only
  rw [zs_lt ha hab]
  rfl
theorem zs_igtF {self t : Nat} {k : List zz_V} {l : List (Option zz_V)} {h : List zz_C} {g : zz_G} {c s a b : Nat} (hb : b < 2147483648) (hab : a ≤ b) : zz_igt self t 0 (.inl b :: .inl a :: k, l, h, g, c, s) = .inl (k, l, h, g, c, s) := by
  unfold zz_igt zz_icmp
  simp only
  rw [zs_ge hb hab]
  rfl
theorem zw_on0 (n : Nat) : zw_on n 0 = true := by cases n <;> rfl
theorem zw_onS {n r : Nat} (hr : 0 < r) : zw_on (n + 1) r = (Nat.beq (r % 10) 1 && zw_on n (r / 10)) := by
  have hb : Nat.beq r 0 = false := by
    cases hc : Nat.beq r 0 with
    | false => rfl
    | true => exact absurd (Nat.eq_of_beq_eq_true hc) (by omega)
  show (bif Nat.beq r 0 then true else Nat.beq (r % 10) 1 && zw_on n (r / 10)) = _
  rw [hb]
  rfl
theorem zw_beq {a b : Nat} (h : a ≠ b) : Nat.beq a b = false := by
  cases hc : Nat.beq a b with
  | false => rfl
  | true => exact absurd (Nat.eq_of_beq_eq_true hc) h
/-- the flag behind the loop -/
def zw_fl (f n r : Nat) : Nat := bif Nat.beq f 1 && zw_on n r then 1 else 0
theorem zw_fl0 {f n : Nat} (hf : f ≤ 1) : zw_fl f n 0 = f := by
  unfold zw_fl
  rw [zw_on0]
  match f, hf with
  | 0, _ => rfl
  | 1, _ => rfl
theorem zw_flZ {n r : Nat} : zw_fl 0 n r = 0 := rfl
theorem zw_flB {n r : Nat} (hr : 0 < r) (h : r % 10 ≠ 1) : zw_fl 1 (n + 1) r = 0 := by
  unfold zw_fl
  rw [zw_onS hr, zw_beq h]
  rfl
theorem zw_flG {n r : Nat} (hr : 0 < r) (h : r % 10 = 1) : zw_fl 1 (n + 1) r = zw_fl 1 n (r / 10) := by
  unfold zw_fl
  rw [zw_onS hr, h]
  rfl
section ZHW
variable {M : zr_M} {pcs : List Nat} {k t : Nat} {E : zr_E} {dd : Nat}
/-- from the store of the flag to the loop's head -/
theorem zw_tail (hX : zr_X M dd E) (h18 : zr_Ok M pcs (k + 18) (zz_store zz_isI 2)) (h19 : zr_Ok M pcs (k + 19) (zz_load zz_isI 3)) (h20 : zr_Ok M pcs (k + 20) (zz_push (.inl 10))) (h21 : zr_Ok M pcs (k + 21) (zz_div (k + 21))) (h22 : zr_Ok M pcs (k + 22) (zz_store zz_isI 3)) (h23 : zr_Ok M pcs (k + 23) (zz_goto k))
    {a w r f d : Nat} {f0 : Option zz_V} {h : List zz_C} {g : zz_G} {c s : Nat} (hr : r < 2147483648) (hn : zr_go E pcs k ([], [some (.inr (.inl (a + 1))), some (.inr (.inr (.inr w))), some (.inl f), some (.inl (r / 10)), some (.inl d)], h, g, c, s)) : zr_go E pcs (k + 18) ([.inl f], [some (.inr (.inl (a + 1))), some (.inr (.inr (.inr w))), f0, some (.inl r), some (.inl d)], h, g, c, s) :=
  zs_next h18 hX rfl (zs_next h19 hX rfl (zs_next h20 hX rfl (zs_next h21 hX (zs_div hr) (zs_next h22 hX rfl (zs_jump h23 hX rfl hn)))))
theorem zw_loop (hX : zr_X M dd E) (h0 : zr_Ok M pcs k (zz_load zz_isI 3)) (h1 : zr_Ok M pcs (k + 1) (zz_gt0 (k + 1) 0 (t + 1))) (h2 : zr_Ok M pcs (k + 2) (zz_load zz_isI 3)) (h3 : zr_Ok M pcs (k + 3) (zz_push (.inl 10))) (h4 : zr_Ok M pcs (k + 4) (zz_rem (k + 4))) (h5 : zr_Ok M pcs (k + 5) (zz_store zz_isI 4)) (h6 : zr_Ok M pcs (k + 6) (zz_load zz_isI 2)) (h7 : zr_Ok M pcs (k + 7) (zz_eq0 (k + 7) (k + 17 + 1) 0)) (h8 : zr_Ok M pcs (k + 8) (zz_load zz_isI 4)) (h9 : zr_Ok M pcs (k + 9) (zz_push (.inl 1))) (h10 : zr_Ok M pcs (k + 10) (zz_ilt (k + 10) (k + 17 + 1) 0)) (h11 : zr_Ok M pcs (k + 11) (zz_load zz_isI 4)) (h12 : zr_Ok M pcs (k + 12) (zz_load zz_isA 0)) (h13 : zr_Ok M pcs (k + 13) (zz_get 2 0)) (h14 : zr_Ok M pcs (k + 14) (zz_igt (k + 14) (k + 17 + 1) 0)) (h15 : zr_Ok M pcs (k + 15) (zz_push (.inl 1))) (h16 : zr_Ok M pcs (k + 16) (zz_goto (k + 18))) (h17 : zr_Ok M pcs (k + 17) (zz_push (.inl 0))) (h18 : zr_Ok M pcs (k + 18) (zz_store zz_isI 2)) (h19 : zr_Ok M pcs (k + 19) (zz_load zz_isI 3)) (h20 : zr_Ok M pcs (k + 20) (zz_push (.inl 10))) (h21 : zr_Ok M pcs (k + 21) (zz_div (k + 21))) (h22 : zr_Ok M pcs (k + 22) (zz_store zz_isI 3)) (h23 : zr_Ok M pcs (k + 23) (zz_goto k))
    {a w : Nat} {fs : List zz_V} {h : List zz_C} {g : zz_G} {c s : Nat} (ha : h[a]? = some (.inl (2, .inl 1 :: fs))) : ∀ (n r f : Nat) (dg : Option zz_V), f ≤ 1 → r < 2147483648 → r < 10 ^ n → zr_go E pcs t ([], [some (.inr (.inl (a + 1))), some (.inr (.inr (.inr w))), some (.inl (zw_fl f n r)), none, none], h, g, c, s) → zr_go E pcs k ([], [some (.inr (.inl (a + 1))), some (.inr (.inr (.inr w))), some (.inl f), some (.inl r), dg], h, g, c, s) := by
  have hend : ∀ (n f : Nat) (dg : Option zz_V), f ≤ 1 → zr_go E pcs t ([], [some (.inr (.inl (a + 1))), some (.inr (.inr (.inr w))), some (.inl (zw_fl f n 0)), none, none], h, g, c, s) → zr_go E pcs k ([], [some (.inr (.inl (a + 1))), some (.inr (.inr (.inr w))), some (.inl f), some (.inl 0), dg], h, g, c, s) := by
    intro n f dg hf hn
    rw [zw_fl0 hf] at hn
    refine zs_next h0 hX rfl (zs_jump h1 hX zs_gt0F ?_)
    refine zr_weak (fun j x hj => ?_) hn
    match j, hj with
    | 0, hj => exact hj
    | 1, hj => exact hj
    | 2, hj => exact hj
    | 3, hj => cases hj
    | 4, hj => cases hj
    | j + 5, hj => simp at hj
  intro n
  induction n with
  | zero =>
    intro r f dg hf hr hr2 hn
    have h0r : r = 0 := by
      have : r < 1 := hr2
      omega
    subst h0r
    exact hend 0 f dg hf hn
  | succ n ih =>
    intro r f dg hf hr hr2 hn
    rcases Nat.eq_zero_or_pos r with h0r | h0r
    · subst h0r
      exact hend (n + 1) f dg hf hn
    · have hr3 : r / 10 < 10 ^ n := by rw [Nat.pow_succ] at hr2; omega
      have hd : r % 10 < 2147483648 := by omega
      refine zs_next h0 hX rfl (zs_next h1 hX (zs_gt0T hr h0r) (zs_next h2 hX rfl (zs_next h3 hX rfl (zs_next h4 hX (zs_rem hr) (zs_next h5 hX rfl (zs_next h6 hX rfl ?_))))))
      rcases Nat.eq_zero_or_pos f with hf0 | hf0
      · subst hf0
        refine zs_jump h7 hX zs_eq0T (zs_next h17 hX rfl (zw_tail hX h18 h19 h20 h21 h22 h23 hr ?_))
        refine ih (r / 10) 0 _ (by omega) (by omega) hr3 ?_
        rw [zw_flZ] at hn ⊢
        exact hn
      · have hf1 : f = 1 := by omega
        subst hf1
        refine zs_next h7 hX (zs_eq0F (by omega) (by omega)) (zs_next h8 hX rfl (zs_next h9 hX rfl ?_))
        rcases Nat.lt_trichotomy (r % 10) 1 with hq | hq | hq
        · refine zs_jump h10 hX (zs_iltT (by omega) hq) (zs_next h17 hX rfl (zw_tail hX h18 h19 h20 h21 h22 h23 hr ?_))
          refine ih (r / 10) 0 _ (by omega) (by omega) hr3 ?_
          rw [zw_flB h0r (by omega)] at hn
          rw [zw_flZ]
          exact hn
        · refine zs_next h10 hX (zs_iltF hd (by omega)) (zs_next h11 hX rfl (zs_next h12 hX rfl (zs_next h13 hX (zs_get ha rfl) (zs_next h14 hX (zs_igtF (by omega) (by omega)) (zs_next h15 hX rfl (zs_jump h16 hX rfl (zw_tail hX h18 h19 h20 h21 h22 h23 hr ?_)))))))
          refine ih (r / 10) 1 _ (by omega) (by omega) hr3 ?_
          rw [zw_flG h0r hq] at hn
          exact hn
        · refine zs_next h10 hX (zs_iltF hd (by omega)) (zs_next h11 hX rfl (zs_next h12 hX rfl (zs_next h13 hX (zs_get ha rfl) (zs_jump h14 hX (zs_igtT hd hq) (zs_next h17 hX rfl (zw_tail hX h18 h19 h20 h21 h22 h23 hr ?_))))))
          refine ih (r / 10) 0 _ (by omega) (by omega) hr3 ?_
          rw [zw_flB h0r (by omega)] at hn
          rw [zw_flZ]
          exact hn
end ZHW
theorem zw_tag {g : zz_G} {ν : List Int32} {i : Nat} (hG : zr_G g ν) (ht : zz_tag g i = true) : ∃ j : Int32, ν[i]? = some j ∧ zr_bad j := by
  unfold zz_tag at ht
  rw [zl_nth] at ht
  match hg : g[i]? with
  | none => rw [hg] at ht; cases ht
  | some (lo, hi, tag) =>
    rw [hg] at ht
    have ht := Nat.eq_of_beq_eq_true ht
    obtain ⟨j, e1, -, -, e4⟩ := hG.2 i lo hi tag hg
    exact ⟨j, e1, e4 ht⟩
theorem zw_num {j : Int32} (h : zr_bad j) : ∃ r : Nat, j = nI r ∧ r < 2147483648 := by
  have hb := zl_b_int j
  have h0 := h.1
  obtain ⟨e1, e2⟩ := zl_pos (X := j) (by omega)
  exact ⟨_, e1, by omega⟩
theorem zw_fl10 {r : Nat} (hr : r < 2147483648) (hb : zr_bad (nI r)) : zw_fl 1 10 r = 0 := by
  unfold zw_fl
  rw [zw_bad hr hb]
  rfl
theorem zo_hwc {M : zr_M} {pcs : List Nat} {k t : Nat} (h0 : zr_Ok M pcs k (zz_load zz_isI 3)) (h1 : zr_Ok M pcs (k + 1) (zz_gt0 (k + 1) 0 (t + 1))) (h2 : zr_Ok M pcs (k + 2) (zz_load zz_isI 3)) (h3 : zr_Ok M pcs (k + 3) (zz_push (.inl 10))) (h4 : zr_Ok M pcs (k + 4) (zz_rem (k + 4))) (h5 : zr_Ok M pcs (k + 5) (zz_store zz_isI 4)) (h6 : zr_Ok M pcs (k + 6) (zz_load zz_isI 2)) (h7 : zr_Ok M pcs (k + 7) (zz_eq0 (k + 7) (k + 17 + 1) 0)) (h8 : zr_Ok M pcs (k + 8) (zz_load zz_isI 4)) (h9 : zr_Ok M pcs (k + 9) (zz_push (.inl 1))) (h10 : zr_Ok M pcs (k + 10) (zz_ilt (k + 10) (k + 17 + 1) 0)) (h11 : zr_Ok M pcs (k + 11) (zz_load zz_isI 4)) (h12 : zr_Ok M pcs (k + 12) (zz_load zz_isA 0)) (h13 : zr_Ok M pcs (k + 13) (zz_get 2 0)) (h14 : zr_Ok M pcs (k + 14) (zz_igt (k + 14) (k + 17 + 1) 0)) (h15 : zr_Ok M pcs (k + 15) (zz_push (.inl 1))) (h16 : zr_Ok M pcs (k + 16) (zz_goto (k + 18))) (h17 : zr_Ok M pcs (k + 17) (zz_push (.inl 0))) (h18 : zr_Ok M pcs (k + 18) (zz_store zz_isI 2)) (h19 : zr_Ok M pcs (k + 19) (zz_load zz_isI 3)) (h20 : zr_Ok M pcs (k + 20) (zz_push (.inl 10))) (h21 : zr_Ok M pcs (k + 21) (zz_div (k + 21))) (h22 : zr_Ok M pcs (k + 22) (zz_store zz_isI 3)) (h23 : zr_Ok M pcs (k + 23) (zz_goto k)) : zr_Ok M pcs k (zz_hwc t) := by
  intro E dd hX st
  unfold zz_hwc
  split
  · rename_i a w i h g c s
    refine zr_bif (fun htag => ?_) (fun _ => h0 E dd hX _)
    match a with
    | 0 => exact zr_fail
    | a + 1 =>
    show zr_res E dd pcs k _ (match zz_nth h a with
      | some (.inl (d, .inl 1 :: _)) => bif Nat.beq d 2 then .inr (.inl (t, ([], [some (.inr (.inl (a + 1))), some (.inr (.inr (.inr w))), some (.inl 0), none, none], h, g, c, s))) else zz_fail
      | _ => zz_fail)
    rw [zl_nth]
    split
    · rename_i d fs hc
      refine zr_bif (fun hd => ?_) (fun _ => zr_fail)
      have hd := Nat.eq_of_beq_eq_true hd
      subst hd
      intro hn
      show zr_W E (pcs.getD k 0) _
      refine zr_W.of hn rfl (fun ρ ν ws H locs ls kk hS => ?_)
      obtain ⟨j, hj, hbad⟩ := zw_tag hS.G htag
      obtain ⟨r, rfl, hr⟩ := zw_num hbad
      have hgo := zw_loop (w := w) hX h0 h1 h2 h3 h4 h5 h6 h7 h8 h9 h10 h11 h12 h13 h14 h15 h16 h17 h18 h19 h20 h21 h22 h23 (g := g) (c := c) (s := s) hc 10 r 1 none (by omega) hr (by omega) (by rw [zw_fl10 hr hbad]; exact hn)
      refine zr_W.use (ρ := ρ) (ν := ν) (ws := ws) hgo ?_
      obtain ⟨p, l, e, R, s, m, args, below, meth, c, D, A, H0, nL, ρ0, ν0, Qc⟩ := E
      refine ⟨hS.1, hS.2.1, hS.2.2.1, ⟨hS.2.2.2.1.1, hS.2.2.2.1.2.1, fun q x hq => ?_⟩, hS.2.2.2.2⟩
      match q, hq with
      | 0, hq => exact hS.2.2.2.1.2.2 0 x hq
      | 1, hq => exact hS.2.2.2.1.2.2 1 x hq
      | 2, hq => exact hS.2.2.2.1.2.2 2 x hq
      | 3, hq =>
        have hq : some (some (.inl r)) = some (some x) := hq
        cases hq
        obtain ⟨v, ⟨j2, e1, e2⟩, e3⟩ := hS.2.2.2.1.2.2 3 (.inr (.inr (.inr i))) rfl
        rw [hj] at e1
        cases e1
        exact ⟨v, e2, e3⟩
      | 4, hq => cases hq
      | q + 5, hq => simp at hq
    · exact zr_fail
  · exact h0 E dd hX _
