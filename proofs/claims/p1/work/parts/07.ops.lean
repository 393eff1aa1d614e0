/-! LAWS OF THE SIMPLE OPERATIONS (written by wip/p1/genops.py) -/
-- of kit/laws/BITS.to-paste, NUMBERS.to-paste
def bt (x : Int32) (i : Nat) : Bool := x.toBitVec.getLsbD i
theorem b_ext {x y : Int32} (h : ∀ i, i < 32 → bt x i = bt y i) : x = y := Int32.toBitVec_inj.mp (BitVec.eq_of_getLsbD_eq (fun i hi => h i hi))
theorem s_l : ∀ n, n < 32 → ((nI n &&& 31).toBitVec.smod 32).toNat = n := by decide +kernel
theorem s_u : ∀ n, n < 32 → (((nI n).toUInt32 &&& Int32.toUInt32 31).toBitVec % 32).toNat = n := by decide +kernel
theorem b_shl (n : Nat) (hn : n < 32) (x : Int32) {i : Nat} (hi : i < 32) : bt (x <<< (nI n &&& 31)) i = (decide (n ≤ i) && bt x (i - n)) := by
  unfold bt
  rw [Int32.toBitVec_shiftLeft]
  show (x.toBitVec <<< ((nI n &&& 31).toBitVec.smod 32).toNat).getLsbD i = _
  rw [s_l n hn, BitVec.getLsbD_shiftLeft]
  rcases Nat.lt_or_ge i n with h | h
  · simp [h, Nat.not_le.mpr h]
  · simp [hi, h, Nat.not_lt.mpr h]
theorem b_ushr (n : Nat) (hn : n < 32) (x : Int32) (i : Nat) : bt ((x.toUInt32 >>> ((nI n).toUInt32 &&& Int32.toUInt32 31)).toInt32) i = bt x (n + i) := by
  show (x.toUInt32 >>> ((nI n).toUInt32 &&& Int32.toUInt32 31)).toBitVec.getLsbD i = x.toUInt32.toBitVec.getLsbD (n + i)
  rw [UInt32.toBitVec_shiftRight]
  show (x.toUInt32.toBitVec >>> (((nI n).toUInt32 &&& Int32.toUInt32 31).toBitVec % 32).toNat).getLsbD i = _
  rw [s_u n hn, BitVec.getLsbD_ushiftRight]
theorem b_sshr (n : Nat) (hn : n < 32) (x : Int32) {i : Nat} (hi : i < 32) : bt (x >>> (nI n &&& 31)) i = if n + i < 32 then bt x (n + i) else bt x 31 := by
  unfold bt
  rw [Int32.toBitVec_shiftRight]
  show (x.toBitVec.sshiftRight ((nI n &&& 31).toBitVec.smod 32).toNat).getLsbD i = _
  rw [s_l n hn, BitVec.getLsbD_sshiftRight, BitVec.msb_eq_getLsbD_last]
  simp [hi]
theorem nx_and (a b : Nat) : nI a &&& nI b = nI (a &&& b) := by
  apply Int32.toBitVec_inj.1
  show BitVec.ofNat 32 a &&& BitVec.ofNat 32 b = BitVec.ofNat 32 (a &&& b)
  apply BitVec.eq_of_getLsbD_eq
  intro i hi
  simp [hi]
theorem nx_xor (a b : Nat) : nI a ^^^ nI b = nI (a ^^^ b) := by
  apply Int32.toBitVec_inj.1
  show BitVec.ofNat 32 a ^^^ BitVec.ofNat 32 b = BitVec.ofNat 32 (a ^^^ b)
  apply BitVec.eq_of_getLsbD_eq
  intro i hi
  simp [hi]
theorem fa_or (a b : Nat) : nI a ||| nI b = nI (a ||| b) := by
  apply Int32.toBitVec_inj.1
  show BitVec.ofNat 32 a ||| BitVec.ofNat 32 b = BitVec.ofNat 32 (a ||| b)
  apply BitVec.eq_of_getLsbD_eq
  intro i hi
  simp [hi]
-- numbers
theorem zn_eq {m n : Nat} (h : m % 4294967296 = n % 4294967296) : nI m = nI n := zl_b_inj (by rw [zl_b, zl_b]; unfold zz_b; omega)
theorem zn_mod (n : Nat) : nI (n % 4294967296) = nI n := zn_eq (Nat.mod_mod _ _)
theorem zn_add {a b n : Nat} (h : zz_add a b = some n) : nI a + nI b = nI n := by
  cases h
  rw [nI_add, zn_mod]
theorem zn_sub {a b n : Nat} (h : zz_sub a b = some n) : nI a - nI b = nI n := by
  cases h
  rw [zn_mod]
  have e : nI a = nI (a + (4294967296 - b % 4294967296)) + nI b := by
    rw [nI_add]
    exact zn_eq (by omega)
  rw [e, Int32.add_sub_cancel]
theorem zn_mul {a b n : Nat} (h : zz_mul a b = some n) : nI a * nI b = nI n := by
  cases h
  rw [pk_mul, zn_mod]
theorem zn_and {a b n : Nat} (h : zz_and a b = some n) : nI a &&& nI b = nI n := by
  cases h
  exact nx_and a b
theorem zn_or {a b n : Nat} (h : zz_or a b = some n) : nI a ||| nI b = nI n := by
  cases h
  exact fa_or a b
theorem zn_xor {a b n : Nat} (h : zz_xor a b = some n) : nI a ^^^ nI b = nI n := by
  cases h
  exact nx_xor a b
theorem zn_31 (b : Nat) : nI b &&& 31 = nI (b % 32) &&& 31 := by
  rw [show (31 : Int32) = nI 31 from rfl, nx_and, nx_and]
  congr 1
  rw [show (31 : Nat) = 2 ^ 5 - 1 from rfl, Nat.and_two_pow_sub_one_eq_mod, Nat.and_two_pow_sub_one_eq_mod]
  omega
theorem zn_bt (a : Nat) {i : Nat} (hi : i < 32) : bt (nI a) i = a.testBit i := by
  show (BitVec.ofNat 32 a).getLsbD i = _
  rw [BitVec.getLsbD_ofNat]
  simp [hi]
theorem zn_shl {a b n : Nat} (h : zz_shl a b = some n) : nI a <<< (nI b &&& 31) = nI n := by
  cases h
  rw [zn_31, zn_mod]
  refine b_ext fun i hi => ?_
  rw [b_shl (b % 32) (Nat.mod_lt _ (by decide)) _ hi, zn_bt _ hi]
  show _ = (a <<< (b % 32)).testBit i
  rw [Nat.testBit_shiftLeft]
  by_cases h2 : b % 32 ≤ i
  · rw [zn_bt _ (by omega)]
  · simp [h2]
theorem zn_shr {a b n : Nat} (h : zz_shr a b = some n) : nI a >>> (nI b &&& 31) = nI n := by
  unfold zz_shr at h
  cases h2 : Nat.ble a 2147483647 with
  | false => rw [h2] at h; cases h
  | true =>
    rw [h2] at h
    cases h
    have ha : a < 2 ^ 31 := Nat.lt_succ_of_le (Nat.le_of_ble_eq_true h2)
    rw [zn_31]
    refine b_ext fun i hi => ?_
    rw [b_sshr (b % 32) (Nat.mod_lt _ (by decide)) _ hi, zn_bt _ hi]
    show _ = (a >>> (b % 32)).testBit i
    rw [Nat.testBit_shiftRight]
    split
    · rw [zn_bt _ (by omega)]
    · rw [zn_bt _ (by omega), Nat.testBit_lt_two_pow ha, Nat.testBit_lt_two_pow (Nat.lt_of_lt_of_le ha (Nat.pow_le_pow_right (by decide) (by omega)))]
theorem zn_31u (b : Nat) : (nI b).toUInt32 &&& Int32.toUInt32 31 = (nI (b % 32)).toUInt32 &&& Int32.toUInt32 31 := by
  have := congrArg Int32.toUInt32 (zn_31 b)
  simpa using this
theorem zn_ushr {a b n : Nat} (h : zz_ushr a b = some n) : ((nI a).toUInt32 >>> ((nI b).toUInt32 &&& Int32.toUInt32 31)).toInt32 = nI n := by
  cases h
  rw [zn_31u]
  refine b_ext fun i hi => ?_
  rw [b_ushr (b % 32) (Nat.mod_lt _ (by decide)), zn_bt _ hi]
  show _ = ((a % 4294967296) >>> (b % 32)).testBit i
  rw [Nat.testBit_shiftRight, show (4294967296 : Nat) = 2 ^ 32 from rfl, Nat.testBit_mod_two_pow]
  by_cases h2 : b % 32 + i < 32
  · rw [zn_bt _ h2]
    simp [h2]
  · simp only [h2, decide_false, Bool.false_and]
    exact BitVec.getLsbD_of_ge _ _ (by omega)
theorem zn_neg (a : Nat) : -(nI a) = nI ((4294967296 - a % 4294967296) % 4294967296) := by
  have h := zn_sub (a := 0) (b := a) (n := (0 + (4294967296 - a % 4294967296)) % 4294967296) rfl
  rw [Nat.zero_add] at h
  rw [← h, nI_0, Int32.zero_sub]
theorem zn_toInt (a : Nat) : (nI a).toInt = (zz_b a : Int) - 2147483648 := by
  have := zl_b_int (nI a)
  rw [zl_b] at this
  omega
theorem zn_i2l (a : Nat) : (nI a).toInt64 = lN (zz_sx a) := by
  apply Int64.toInt_inj.mp
  rw [Int32.toInt_toInt64, zn_toInt]
  unfold lN zz_sx zz_b
  rw [Int64.toInt_ofNat', Int.bmod_def]
  simp only [Int64.size]
  cases h : Nat.ble (a % 4294967296) 2147483647 with
  | true =>
    have := Nat.le_of_ble_eq_true h
    simp only [cond_true]
    split <;> omega
  | false =>
    have : ¬ a % 4294967296 ≤ 2147483647 := fun q => by rw [Nat.ble_eq_true_of_le q] at h; cases h
    simp only [cond_false]
    split <;> omega
theorem zn_lmod (n : Nat) : lN (n % 18446744073709551616) = lN n := by
  apply Int64.toBitVec_inj.mp
  show BitVec.ofNat 64 _ = BitVec.ofNat 64 _
  apply BitVec.eq_of_toNat_eq
  rw [BitVec.toNat_ofNat, BitVec.toNat_ofNat]
  exact Nat.mod_mod _ _
theorem zn_ladd (a b : Nat) : lN a + lN b = lN (zz_ladd a b) := by
  unfold zz_ladd
  rw [zn_lmod, lN_add]
theorem zn_lmul (a b : Nat) : lN a * lN b = lN (zz_lmul a b) := by
  unfold zz_lmul
  rw [zn_lmod, lN_mul]
-- kinds of values
theorem zl_I {ρ : List Nat} {ν : List Int32} {a : zz_V} {v : Value} (h : zz_isI a = true) (hv : zr_V ρ ν a v) : ∃ x : Int32, v = .int x := by
  match a, h, hv with
  | .inl n, _, hv => exact ⟨_, hv⟩
  | .inr (.inr (.inr k)), _, ⟨i, _, e⟩ => exact ⟨i, e⟩
theorem zl_A {ρ : List Nat} {ν : List Int32} {a : zz_V} {v : Value} (h : zz_isA a = true) (hv : zr_V ρ ν a v) : ∃ x : Nat, v = .ref x := by
  match a, h, hv with
  | .inr (.inl (a + 1)), _, ⟨q, _, e⟩ => exact ⟨q, e⟩
theorem zl_J {ρ : List Nat} {ν : List Int32} {a : zz_V} {v : Value} (h : zz_isJ a = true) (hv : zr_V ρ ν a v) : ∃ x : Int64, v = .long x := by
  match a, h, hv with
  | .inr (.inr (.inl n)), _, hv => exact ⟨_, hv⟩
theorem zl_cat1 {ρ : List Nat} {ν : List Int32} {a : zz_V} {v : Value} (h : zz_isJ a = false) (hv : zr_V ρ ν a v) : v.category = 1 := by
  match a, h, hv with
  | .inl n, _, hv => rw [hv]; rfl
  | .inr (.inl 0), _, hv => rw [hv]; rfl
  | .inr (.inl (a + 1)), _, ⟨q, _, e⟩ => rw [e]; rfl
  | .inr (.inr (.inr k)), _, ⟨i, _, e⟩ => rw [e]; rfl
-- locals
def zl_all (ls : Array Slot) : List (Nat × Value) := (List.range ls.size).filterMap (fun k => match (ls[k]? : Option Slot) with
  | some (.val v) => some (k, v)
  | _ => none)
theorem zl_in {ls : Array Slot} {k : Nat} {v : Value} (h : ls[k]? = some (.val v)) : (k, v) ∈ zl_all ls := by
  refine List.mem_filterMap.mpr ⟨k, List.mem_range.mpr (Array.getElem?_eq_some_iff.mp h).1, ?_⟩
  rw [h]
theorem zl_has {ρ : List Nat} {ν : List Int32} {la : List (Option zz_V)} {ls : Array Slot} {nL : Nat} (h : zr_L ρ ν la ls nL) : lv_has ls nL (zl_all ls) := by
  refine ⟨h.1, h.2.1, fun q hq => ?_⟩
  obtain ⟨k, -, hk⟩ := List.mem_filterMap.mp hq
  match hs : ls[k]? with
  | some (.val v) =>
    rw [hs] at hk
    cases hk
    exact hs
  | some .second => rw [hs] at hk; cases hk
  | some .unset => rw [hs] at hk; cases hk
  | none => rw [hs] at hk; cases hk
theorem zl_loose {la : List (Option zz_V)} {i k : Nat} {a : zz_V} (h : (zz_loose la i)[k]? = some (some a)) : la[k]? = some (some a) ∧ (k + 1 = i → zz_isJ a = false) := by
  cases i with
  | zero => exact ⟨h, fun q => by omega⟩
  | succ j =>
    change (match zz_nth la j with
      | some v => bif zz_isLong v then zz_set none la j else la
      | none => la)[k]? = some (some a) at h
    rw [zl_nth] at h
    cases hj : la[j]? with
    | none =>
      rw [hj] at h
      refine ⟨h, fun q => ?_⟩
      have : k = j := by omega
      subst this
      change la[k]? = _ at h
      rw [hj] at h
      cases h
    | some v =>
      rw [hj] at h
      change (bif zz_isLong v then zz_set none la j else la)[k]? = some (some a) at h
      cases hv : zz_isLong v with
      | false =>
        rw [hv] at h
        refine ⟨h, fun q => ?_⟩
        have : k = j := by omega
        subst this
        change la[k]? = _ at h
        rw [hj] at h
        cases h
        exact hv
      | true =>
        rw [hv] at h
        change (zz_set none la j)[k]? = some (some a) at h
        rw [zl_set] at h
        by_cases hk : j = k
        · subst hk
          rw [List.getElem?_set_self (List.getElem?_eq_some_iff.mp hj).1] at h
          cases h
        · rw [List.getElem?_set_ne hk] at h
          exact ⟨h, fun q => by omega⟩
theorem zl_put1 {ρ : List Nat} {ν : List Int32} {la : List (Option zz_V)} {ls ls2 : Array Slot} {nL i : Nat} {v : zz_V} {x : Value} (hL : zr_L ρ ν la ls nL) (hv : zr_V ρ ν v x) (hc : x.category = 1) (h2 : lv_has ls2 nL ((i, x) :: (zl_all ls).filter (fun q => !(q.1 == i) && !(q.1 + 1 == i && q.2.category == 2)))) : zr_L ρ ν (zz_put1 la i v) ls2 nL := by
  refine ⟨h2.1, h2.2.1, fun k a hk => ?_⟩
  unfold zz_put1 at hk
  rw [zl_set] at hk
  by_cases hi : i = k
  · subst hi
    rw [List.getElem?_set] at hk
    simp at hk
    obtain ⟨-, rfl⟩ := hk
    exact ⟨x, hv, h2.2.2 (i, x) List.mem_cons_self⟩
  · rw [List.getElem?_set_ne hi] at hk
    obtain ⟨h3, h4⟩ := zl_loose hk
    obtain ⟨w, hw1, hw2⟩ := hL.2.2 k a h3
    refine ⟨w, hw1, h2.2.2 (k, w) (List.mem_cons_of_mem _ (List.mem_filter.mpr ⟨zl_in hw2, ?_⟩))⟩
    by_cases hk2 : k + 1 = i
    · have := zl_cat1 (h4 hk2) hw1
      simp [this]
      omega
    · simp [hk2]
      omega
theorem zl_put2 {ρ : List Nat} {ν : List Int32} {la : List (Option zz_V)} {ls ls2 : Array Slot} {nL i : Nat} {v : zz_V} {x : Value} (hL : zr_L ρ ν la ls nL) (hv : zr_V ρ ν v x) (hc : x.category = 2) (h2 : lv_has ls2 nL ((i, x) :: (zl_all ls).filter (fun q => !(q.1 == i) && (!(q.1 == i + 1) && !(q.1 + 1 == i && q.2.category == 2))))) : zr_L ρ ν (zz_put2 la i v) ls2 nL := by
  refine ⟨h2.1, h2.2.1, fun k a hk => ?_⟩
  unfold zz_put2 at hk
  rw [zl_set, zl_set] at hk
  by_cases hi1 : i + 1 = k
  · subst hi1
    rw [List.getElem?_set] at hk
    simp at hk
  · rw [List.getElem?_set_ne hi1] at hk
    by_cases hi : i = k
    · subst hi
      rw [List.getElem?_set] at hk
      simp at hk
      obtain ⟨-, rfl⟩ := hk
      exact ⟨x, hv, h2.2.2 (i, x) List.mem_cons_self⟩
    · rw [List.getElem?_set_ne hi] at hk
      obtain ⟨h3, h4⟩ := zl_loose hk
      obtain ⟨w, hw1, hw2⟩ := hL.2.2 k a h3
      refine ⟨w, hw1, h2.2.2 (k, w) (List.mem_cons_of_mem _ (List.mem_filter.mpr ⟨zl_in hw2, ?_⟩))⟩
      by_cases hk2 : k + 1 = i
      · have := zl_cat1 (h4 hk2) hw1
        simp [this]
        omega
      · simp [hk2]
        omega
theorem zo_iconst {M : zr_M} {pcs : List Nat} {k pc : Nat} {n : Int} {v : Nat} (hpc : pcs.getD k 0 = pc) (hp1 : pcs.getD (k + 1) 0 = pc + 1) (hdg : decode M.2.1 pc = .ok (.iconst n, 1)) (hv : Int32.ofInt n = nI v) : zr_Ok M pcs k (zz_push (.inl v)) := by
  intro E d hX st
  obtain ⟨p, l, e, R, s, m, args, below, meth, c, D, A, H0, nL, ρ0, ν0, Qc⟩ := E
  obtain ⟨own, cc, nl, ret, nm⟩ := M
  obtain ⟨sk, la, h, g, nc, ns⟩ := st
  obtain ⟨hx, hb, hml, hown, hts, hK, hlk, hr, hnm, rfl, hA, hR1, hR2, hEx⟩ := hX
  rintro ⟨b1, b2, hn⟩
  refine ⟨b1, b2, fun ρ ν ws H locs ls kk hS => ?_⟩
  show W p l e R s m args below meth c H locs nc ns _ (F0 m (pcs.getD k 0) ls kk)
  rw [hpc]
  obtain ⟨hS1, hG, hH, hL, hV, hP, hD, hS⟩ := hS
  have hn := hn ρ ν ws H locs ls (.int (nI v) :: kk) ⟨hS1, hG, hH, hL, ⟨rfl, hV⟩, hP, hD, hS⟩
  rw [hp1] at hn
  exact lv_iconst hx hb hdg hv hn
theorem zo_bipush {M : zr_M} {pcs : List Nat} {k pc : Nat} {n : Int} {v : Nat} (hpc : pcs.getD k 0 = pc) (hp1 : pcs.getD (k + 1) 0 = pc + 2) (hdg : decode M.2.1 pc = .ok (.bipush n, 2)) (hv : (Int8.ofInt n).toInt32 = nI v) : zr_Ok M pcs k (zz_push (.inl v)) := by
  intro E d hX st
  obtain ⟨p, l, e, R, s, m, args, below, meth, c, D, A, H0, nL, ρ0, ν0, Qc⟩ := E
  obtain ⟨own, cc, nl, ret, nm⟩ := M
  obtain ⟨sk, la, h, g, nc, ns⟩ := st
  obtain ⟨hx, hb, hml, hown, hts, hK, hlk, hr, hnm, rfl, hA, hR1, hR2, hEx⟩ := hX
  rintro ⟨b1, b2, hn⟩
  refine ⟨b1, b2, fun ρ ν ws H locs ls kk hS => ?_⟩
  show W p l e R s m args below meth c H locs nc ns _ (F0 m (pcs.getD k 0) ls kk)
  rw [hpc]
  obtain ⟨hS1, hG, hH, hL, hV, hP, hD, hS⟩ := hS
  have hn := hn ρ ν ws H locs ls (.int (nI v) :: kk) ⟨hS1, hG, hH, hL, ⟨rfl, hV⟩, hP, hD, hS⟩
  rw [hp1] at hn
  exact lv_bipush hx hb hdg hv hn
theorem zo_sipush {M : zr_M} {pcs : List Nat} {k pc : Nat} {n : Int} {v : Nat} (hpc : pcs.getD k 0 = pc) (hp1 : pcs.getD (k + 1) 0 = pc + 3) (hdg : decode M.2.1 pc = .ok (.sipush n, 3)) (hv : (Int16.ofInt n).toInt32 = nI v) : zr_Ok M pcs k (zz_push (.inl v)) := by
  intro E d hX st
  obtain ⟨p, l, e, R, s, m, args, below, meth, c, D, A, H0, nL, ρ0, ν0, Qc⟩ := E
  obtain ⟨own, cc, nl, ret, nm⟩ := M
  obtain ⟨sk, la, h, g, nc, ns⟩ := st
  obtain ⟨hx, hb, hml, hown, hts, hK, hlk, hr, hnm, rfl, hA, hR1, hR2, hEx⟩ := hX
  rintro ⟨b1, b2, hn⟩
  refine ⟨b1, b2, fun ρ ν ws H locs ls kk hS => ?_⟩
  show W p l e R s m args below meth c H locs nc ns _ (F0 m (pcs.getD k 0) ls kk)
  rw [hpc]
  obtain ⟨hS1, hG, hH, hL, hV, hP, hD, hS⟩ := hS
  have hn := hn ρ ν ws H locs ls (.int (nI v) :: kk) ⟨hS1, hG, hH, hL, ⟨rfl, hV⟩, hP, hD, hS⟩
  rw [hp1] at hn
  exact lv_sipush hx hb hdg hv hn
theorem zo_lconst {M : zr_M} {pcs : List Nat} {k pc : Nat} {n : Fin 2} {v : Nat} (hpc : pcs.getD k 0 = pc) (hp1 : pcs.getD (k + 1) 0 = pc + 1) (hdg : decode M.2.1 pc = .ok (.lconst n, 1)) (hv : Int64.ofNat (n : Nat) = lN v) : zr_Ok M pcs k (zz_push (.inr (.inr (.inl v)))) := by
  intro E d hX st
  obtain ⟨p, l, e, R, s, m, args, below, meth, c, D, A, H0, nL, ρ0, ν0, Qc⟩ := E
  obtain ⟨own, cc, nl, ret, nm⟩ := M
  obtain ⟨sk, la, h, g, nc, ns⟩ := st
  obtain ⟨hx, hb, hml, hown, hts, hK, hlk, hr, hnm, rfl, hA, hR1, hR2, hEx⟩ := hX
  rintro ⟨b1, b2, hn⟩
  refine ⟨b1, b2, fun ρ ν ws H locs ls kk hS => ?_⟩
  show W p l e R s m args below meth c H locs nc ns _ (F0 m (pcs.getD k 0) ls kk)
  rw [hpc]
  obtain ⟨hS1, hG, hH, hL, hV, hP, hD, hS⟩ := hS
  have hn := hn ρ ν ws H locs ls (.long (lN v) :: kk) ⟨hS1, hG, hH, hL, ⟨rfl, hV⟩, hP, hD, hS⟩
  rw [hp1] at hn
  exact lv_lconst hx hb hdg hv hn
theorem zo_ldc {M : zr_M} {pcs : List Nat} {k pc : Nat} {i : Nat} {v : Nat} (hpc : pcs.getD k 0 = pc) (hp1 : pcs.getD (k + 1) 0 = pc + 2) (hdg : decode M.2.1 pc = .ok (.ldc i, 2)) (hw : Cond.constant M.1 i (nI v) ∈ zg_tbl) : zr_Ok M pcs k (zz_push (.inl v)) := by
  intro E d hX st
  obtain ⟨p, l, e, R, s, m, args, below, meth, c, D, A, H0, nL, ρ0, ν0, Qc⟩ := E
  obtain ⟨own, cc, nl, ret, nm⟩ := M
  obtain ⟨sk, la, h, g, nc, ns⟩ := st
  obtain ⟨hx, hb, hml, hown, hts, hK, hlk, hr, hnm, rfl, hA, hR1, hR2, hEx⟩ := hX
  rintro ⟨b1, b2, hn⟩
  refine ⟨b1, b2, fun ρ ν ws H locs ls kk hS => ?_⟩
  show W p l e R s m args below meth c H locs nc ns _ (F0 m (pcs.getD k 0) ls kk)
  rw [hpc]
  obtain ⟨hS1, hG, hH, hL, hV, hP, hD, hS⟩ := hS
  have hn := hn ρ ν ws H locs ls (.int (nI v) :: kk) ⟨hS1, hG, hH, hL, ⟨rfl, hV⟩, hP, hD, hS⟩
  rw [hp1] at hn
  exact lv_ldc hx hb hown (hts _ hw) hdg hn
theorem zo_ldcw {M : zr_M} {pcs : List Nat} {k pc : Nat} {i : Nat} {v : Nat} (hpc : pcs.getD k 0 = pc) (hp1 : pcs.getD (k + 1) 0 = pc + 3) (hdg : decode M.2.1 pc = .ok (.ldc_w i, 3)) (hw : Cond.constant M.1 i (nI v) ∈ zg_tbl) : zr_Ok M pcs k (zz_push (.inl v)) := by
  intro E d hX st
  obtain ⟨p, l, e, R, s, m, args, below, meth, c, D, A, H0, nL, ρ0, ν0, Qc⟩ := E
  obtain ⟨own, cc, nl, ret, nm⟩ := M
  obtain ⟨sk, la, h, g, nc, ns⟩ := st
  obtain ⟨hx, hb, hml, hown, hts, hK, hlk, hr, hnm, rfl, hA, hR1, hR2, hEx⟩ := hX
  rintro ⟨b1, b2, hn⟩
  refine ⟨b1, b2, fun ρ ν ws H locs ls kk hS => ?_⟩
  show W p l e R s m args below meth c H locs nc ns _ (F0 m (pcs.getD k 0) ls kk)
  rw [hpc]
  obtain ⟨hS1, hG, hH, hL, hV, hP, hD, hS⟩ := hS
  have hn := hn ρ ν ws H locs ls (.int (nI v) :: kk) ⟨hS1, hG, hH, hL, ⟨rfl, hV⟩, hP, hD, hS⟩
  rw [hp1] at hn
  exact lv_ldcw hx hb hown (hts _ hw) hdg hn
theorem zo_ldc2 {M : zr_M} {pcs : List Nat} {k pc : Nat} {i : Nat} {v : Nat} (hpc : pcs.getD k 0 = pc) (hp1 : pcs.getD (k + 1) 0 = pc + 3) (hdg : decode M.2.1 pc = .ok (.ldc2_w i, 3)) (hw : Cond.constantLong M.1 i (lN v) ∈ zg_tbl) : zr_Ok M pcs k (zz_push (.inr (.inr (.inl v)))) := by
  intro E d hX st
  obtain ⟨p, l, e, R, s, m, args, below, meth, c, D, A, H0, nL, ρ0, ν0, Qc⟩ := E
  obtain ⟨own, cc, nl, ret, nm⟩ := M
  obtain ⟨sk, la, h, g, nc, ns⟩ := st
  obtain ⟨hx, hb, hml, hown, hts, hK, hlk, hr, hnm, rfl, hA, hR1, hR2, hEx⟩ := hX
  rintro ⟨b1, b2, hn⟩
  refine ⟨b1, b2, fun ρ ν ws H locs ls kk hS => ?_⟩
  show W p l e R s m args below meth c H locs nc ns _ (F0 m (pcs.getD k 0) ls kk)
  rw [hpc]
  obtain ⟨hS1, hG, hH, hL, hV, hP, hD, hS⟩ := hS
  have hn := hn ρ ν ws H locs ls (.long (lN v) :: kk) ⟨hS1, hG, hH, hL, ⟨rfl, hV⟩, hP, hD, hS⟩
  rw [hp1] at hn
  exact lv_ldc2 hx hb hown (hts _ hw) hdg hn
theorem zo_iload {M : zr_M} {pcs : List Nat} {k pc : Nat} {i : Nat} (hpc : pcs.getD k 0 = pc) (hp1 : pcs.getD (k + 1) 0 = pc + 2) (hdg : decode M.2.1 pc = .ok (.iload i, 2)) : zr_Ok M pcs k (zz_load zz_isI i) := by
  intro E d hX st
  obtain ⟨p, l, e, R, s, m, args, below, meth, c, D, A, H0, nL, ρ0, ν0, Qc⟩ := E
  obtain ⟨own, cc, nl, ret, nm⟩ := M
  obtain ⟨sk, la, h, g, nc, ns⟩ := st
  obtain ⟨hx, hb, hml, hown, hts, hK, hlk, hr, hnm, rfl, hA, hR1, hR2, hEx⟩ := hX
  show zr_res _ d pcs k _ (match zz_nth la i with
    | some (some v) => bif zz_isI v then .inl (v :: sk, la, h, g, nc, ns) else zz_fail
    | _ => zz_fail)
  rw [zl_nth]
  match hl : la[i]? with
  | none => exact trivial
  | some none => exact trivial
  | some (some v) =>
  show zr_res _ d pcs k _ (bif zz_isI v then .inl (v :: sk, la, h, g, nc, ns) else zz_fail)
  cases hk : zz_isI v with
  | false => exact trivial
  | true =>
  rintro ⟨b1, b2, hn⟩
  refine ⟨b1, b2, fun ρ ν ws H locs ls kk hS => ?_⟩
  show W p l e R s m args below meth c H locs nc ns _ (F0 m (pcs.getD k 0) ls kk)
  rw [hpc]
  obtain ⟨hS1, hG, hH, hL, hV, hP, hD, hS⟩ := hS
  obtain ⟨x, hx1, hx2⟩ := hL.2.2 i v hl
  obtain ⟨y, rfl⟩ := zl_I hk hx1
  have hn := hn ρ ν ws H locs ls (_ :: kk) ⟨hS1, hG, hH, hL, ⟨hx1, hV⟩, hP, hD, hS⟩
  rw [hp1] at hn
  exact lv_iload hx hb hdg hx2 hn
theorem zo_iload_n {M : zr_M} {pcs : List Nat} {k pc : Nat} {i : Nat} {f : Fin 4} (hf : (f : Nat) = i) (hpc : pcs.getD k 0 = pc) (hp1 : pcs.getD (k + 1) 0 = pc + 1) (hdg : decode M.2.1 pc = .ok (.iload_n f, 1)) : zr_Ok M pcs k (zz_load zz_isI i) := by
  intro E d hX st
  obtain ⟨p, l, e, R, s, m, args, below, meth, c, D, A, H0, nL, ρ0, ν0, Qc⟩ := E
  obtain ⟨own, cc, nl, ret, nm⟩ := M
  obtain ⟨sk, la, h, g, nc, ns⟩ := st
  obtain ⟨hx, hb, hml, hown, hts, hK, hlk, hr, hnm, rfl, hA, hR1, hR2, hEx⟩ := hX
  show zr_res _ d pcs k _ (match zz_nth la i with
    | some (some v) => bif zz_isI v then .inl (v :: sk, la, h, g, nc, ns) else zz_fail
    | _ => zz_fail)
  rw [zl_nth]
  match hl : la[i]? with
  | none => exact trivial
  | some none => exact trivial
  | some (some v) =>
  show zr_res _ d pcs k _ (bif zz_isI v then .inl (v :: sk, la, h, g, nc, ns) else zz_fail)
  cases hk : zz_isI v with
  | false => exact trivial
  | true =>
  rintro ⟨b1, b2, hn⟩
  refine ⟨b1, b2, fun ρ ν ws H locs ls kk hS => ?_⟩
  show W p l e R s m args below meth c H locs nc ns _ (F0 m (pcs.getD k 0) ls kk)
  rw [hpc]
  obtain ⟨hS1, hG, hH, hL, hV, hP, hD, hS⟩ := hS
  obtain ⟨x, hx1, hx2⟩ := hL.2.2 i v hl
  obtain ⟨y, rfl⟩ := zl_I hk hx1
  have hn := hn ρ ν ws H locs ls (_ :: kk) ⟨hS1, hG, hH, hL, ⟨hx1, hV⟩, hP, hD, hS⟩
  rw [hp1] at hn
  exact lv_iload_n hx hb hdg hf hx2 hn
theorem zo_aload {M : zr_M} {pcs : List Nat} {k pc : Nat} {i : Nat} (hpc : pcs.getD k 0 = pc) (hp1 : pcs.getD (k + 1) 0 = pc + 2) (hdg : decode M.2.1 pc = .ok (.aload i, 2)) : zr_Ok M pcs k (zz_load zz_isA i) := by
  intro E d hX st
  obtain ⟨p, l, e, R, s, m, args, below, meth, c, D, A, H0, nL, ρ0, ν0, Qc⟩ := E
  obtain ⟨own, cc, nl, ret, nm⟩ := M
  obtain ⟨sk, la, h, g, nc, ns⟩ := st
  obtain ⟨hx, hb, hml, hown, hts, hK, hlk, hr, hnm, rfl, hA, hR1, hR2, hEx⟩ := hX
  show zr_res _ d pcs k _ (match zz_nth la i with
    | some (some v) => bif zz_isA v then .inl (v :: sk, la, h, g, nc, ns) else zz_fail
    | _ => zz_fail)
  rw [zl_nth]
  match hl : la[i]? with
  | none => exact trivial
  | some none => exact trivial
  | some (some v) =>
  show zr_res _ d pcs k _ (bif zz_isA v then .inl (v :: sk, la, h, g, nc, ns) else zz_fail)
  cases hk : zz_isA v with
  | false => exact trivial
  | true =>
  rintro ⟨b1, b2, hn⟩
  refine ⟨b1, b2, fun ρ ν ws H locs ls kk hS => ?_⟩
  show W p l e R s m args below meth c H locs nc ns _ (F0 m (pcs.getD k 0) ls kk)
  rw [hpc]
  obtain ⟨hS1, hG, hH, hL, hV, hP, hD, hS⟩ := hS
  obtain ⟨x, hx1, hx2⟩ := hL.2.2 i v hl
  obtain ⟨y, rfl⟩ := zl_A hk hx1
  have hn := hn ρ ν ws H locs ls (_ :: kk) ⟨hS1, hG, hH, hL, ⟨hx1, hV⟩, hP, hD, hS⟩
  rw [hp1] at hn
  exact lv_aload hx hb hdg hx2 hn
theorem zo_aload_n {M : zr_M} {pcs : List Nat} {k pc : Nat} {i : Nat} {f : Fin 4} (hf : (f : Nat) = i) (hpc : pcs.getD k 0 = pc) (hp1 : pcs.getD (k + 1) 0 = pc + 1) (hdg : decode M.2.1 pc = .ok (.aload_n f, 1)) : zr_Ok M pcs k (zz_load zz_isA i) := by
  intro E d hX st
  obtain ⟨p, l, e, R, s, m, args, below, meth, c, D, A, H0, nL, ρ0, ν0, Qc⟩ := E
  obtain ⟨own, cc, nl, ret, nm⟩ := M
  obtain ⟨sk, la, h, g, nc, ns⟩ := st
  obtain ⟨hx, hb, hml, hown, hts, hK, hlk, hr, hnm, rfl, hA, hR1, hR2, hEx⟩ := hX
  show zr_res _ d pcs k _ (match zz_nth la i with
    | some (some v) => bif zz_isA v then .inl (v :: sk, la, h, g, nc, ns) else zz_fail
    | _ => zz_fail)
  rw [zl_nth]
  match hl : la[i]? with
  | none => exact trivial
  | some none => exact trivial
  | some (some v) =>
  show zr_res _ d pcs k _ (bif zz_isA v then .inl (v :: sk, la, h, g, nc, ns) else zz_fail)
  cases hk : zz_isA v with
  | false => exact trivial
  | true =>
  rintro ⟨b1, b2, hn⟩
  refine ⟨b1, b2, fun ρ ν ws H locs ls kk hS => ?_⟩
  show W p l e R s m args below meth c H locs nc ns _ (F0 m (pcs.getD k 0) ls kk)
  rw [hpc]
  obtain ⟨hS1, hG, hH, hL, hV, hP, hD, hS⟩ := hS
  obtain ⟨x, hx1, hx2⟩ := hL.2.2 i v hl
  obtain ⟨y, rfl⟩ := zl_A hk hx1
  have hn := hn ρ ν ws H locs ls (_ :: kk) ⟨hS1, hG, hH, hL, ⟨hx1, hV⟩, hP, hD, hS⟩
  rw [hp1] at hn
  exact lv_aload_n hx hb hdg hf hx2 hn
theorem zo_lload {M : zr_M} {pcs : List Nat} {k pc : Nat} {i : Nat} (hpc : pcs.getD k 0 = pc) (hp1 : pcs.getD (k + 1) 0 = pc + 2) (hdg : decode M.2.1 pc = .ok (.lload i, 2)) : zr_Ok M pcs k (zz_load zz_isJ i) := by
  intro E d hX st
  obtain ⟨p, l, e, R, s, m, args, below, meth, c, D, A, H0, nL, ρ0, ν0, Qc⟩ := E
  obtain ⟨own, cc, nl, ret, nm⟩ := M
  obtain ⟨sk, la, h, g, nc, ns⟩ := st
  obtain ⟨hx, hb, hml, hown, hts, hK, hlk, hr, hnm, rfl, hA, hR1, hR2, hEx⟩ := hX
  show zr_res _ d pcs k _ (match zz_nth la i with
    | some (some v) => bif zz_isJ v then .inl (v :: sk, la, h, g, nc, ns) else zz_fail
    | _ => zz_fail)
  rw [zl_nth]
  match hl : la[i]? with
  | none => exact trivial
  | some none => exact trivial
  | some (some v) =>
  show zr_res _ d pcs k _ (bif zz_isJ v then .inl (v :: sk, la, h, g, nc, ns) else zz_fail)
  cases hk : zz_isJ v with
  | false => exact trivial
  | true =>
  rintro ⟨b1, b2, hn⟩
  refine ⟨b1, b2, fun ρ ν ws H locs ls kk hS => ?_⟩
  show W p l e R s m args below meth c H locs nc ns _ (F0 m (pcs.getD k 0) ls kk)
  rw [hpc]
  obtain ⟨hS1, hG, hH, hL, hV, hP, hD, hS⟩ := hS
  obtain ⟨x, hx1, hx2⟩ := hL.2.2 i v hl
  obtain ⟨y, rfl⟩ := zl_J hk hx1
  have hn := hn ρ ν ws H locs ls (_ :: kk) ⟨hS1, hG, hH, hL, ⟨hx1, hV⟩, hP, hD, hS⟩
  rw [hp1] at hn
  exact lv_lload hx hb hdg hx2 hn
theorem zo_lload_n {M : zr_M} {pcs : List Nat} {k pc : Nat} {i : Nat} {f : Fin 4} (hf : (f : Nat) = i) (hpc : pcs.getD k 0 = pc) (hp1 : pcs.getD (k + 1) 0 = pc + 1) (hdg : decode M.2.1 pc = .ok (.lload_n f, 1)) : zr_Ok M pcs k (zz_load zz_isJ i) := by
  intro E d hX st
  obtain ⟨p, l, e, R, s, m, args, below, meth, c, D, A, H0, nL, ρ0, ν0, Qc⟩ := E
  obtain ⟨own, cc, nl, ret, nm⟩ := M
  obtain ⟨sk, la, h, g, nc, ns⟩ := st
  obtain ⟨hx, hb, hml, hown, hts, hK, hlk, hr, hnm, rfl, hA, hR1, hR2, hEx⟩ := hX
  show zr_res _ d pcs k _ (match zz_nth la i with
    | some (some v) => bif zz_isJ v then .inl (v :: sk, la, h, g, nc, ns) else zz_fail
    | _ => zz_fail)
  rw [zl_nth]
  match hl : la[i]? with
  | none => exact trivial
  | some none => exact trivial
  | some (some v) =>
  show zr_res _ d pcs k _ (bif zz_isJ v then .inl (v :: sk, la, h, g, nc, ns) else zz_fail)
  cases hk : zz_isJ v with
  | false => exact trivial
  | true =>
  rintro ⟨b1, b2, hn⟩
  refine ⟨b1, b2, fun ρ ν ws H locs ls kk hS => ?_⟩
  show W p l e R s m args below meth c H locs nc ns _ (F0 m (pcs.getD k 0) ls kk)
  rw [hpc]
  obtain ⟨hS1, hG, hH, hL, hV, hP, hD, hS⟩ := hS
  obtain ⟨x, hx1, hx2⟩ := hL.2.2 i v hl
  obtain ⟨y, rfl⟩ := zl_J hk hx1
  have hn := hn ρ ν ws H locs ls (_ :: kk) ⟨hS1, hG, hH, hL, ⟨hx1, hV⟩, hP, hD, hS⟩
  rw [hp1] at hn
  exact lv_lload_n hx hb hdg hf hx2 hn
theorem zo_istore {M : zr_M} {pcs : List Nat} {k pc : Nat} {i : Nat} (hpc : pcs.getD k 0 = pc) (hp1 : pcs.getD (k + 1) 0 = pc + 2) (hdg : decode M.2.1 pc = .ok (.istore i, 2)) (hi : i < M.2.2.1) : zr_Ok M pcs k (zz_store zz_isI i) := by
  intro E d hX st
  obtain ⟨p, l, e, R, s, m, args, below, meth, c, D, A, H0, nL, ρ0, ν0, Qc⟩ := E
  obtain ⟨own, cc, nl, ret, nm⟩ := M
  obtain ⟨sk, la, h, g, nc, ns⟩ := st
  obtain ⟨hx, hb, hml, hown, hts, hK, hlk, hr, hnm, rfl, hA, hR1, hR2, hEx⟩ := hX
  cases sk with
  | nil => exact trivial
  | cons v sk =>
  show zr_res _ d pcs k _ (bif zz_isI v then .inl (sk, zz_put1 la i v, h, g, nc, ns) else zz_fail)
  cases hk : zz_isI v with
  | false => exact trivial
  | true =>
  rintro ⟨b1, b2, hn⟩
  refine ⟨b1, b2, fun ρ ν ws H locs ls kk hS => ?_⟩
  show W p l e R s m args below meth c H locs nc ns _ (F0 m (pcs.getD k 0) ls kk)
  rw [hpc]
  obtain ⟨hS1, hG, hH, hL, hV, hP, hD, hS⟩ := hS
  cases kk with
  | nil => exact hV.elim
  | cons x kk =>
  obtain ⟨hx1, hV⟩ := hV
  obtain ⟨y, rfl⟩ := zl_I hk hx1
  refine lv_istore hx hb hdg (zl_has hL) hi rfl (fun ls2 hl2 => ?_)
  have hn := hn ρ ν ws H locs ls2 kk ⟨hS1, hG, hH, zl_put1 hL hx1 rfl hl2, hV, hP, hD, hS⟩
  rw [hp1] at hn
  exact hn
theorem zo_istore_n {M : zr_M} {pcs : List Nat} {k pc : Nat} {i : Nat} {f : Fin 4} (hf : (f : Nat) = i) (hpc : pcs.getD k 0 = pc) (hp1 : pcs.getD (k + 1) 0 = pc + 1) (hdg : decode M.2.1 pc = .ok (.istore_n f, 1)) (hi : i < M.2.2.1) : zr_Ok M pcs k (zz_store zz_isI i) := by
  intro E d hX st
  obtain ⟨p, l, e, R, s, m, args, below, meth, c, D, A, H0, nL, ρ0, ν0, Qc⟩ := E
  obtain ⟨own, cc, nl, ret, nm⟩ := M
  obtain ⟨sk, la, h, g, nc, ns⟩ := st
  obtain ⟨hx, hb, hml, hown, hts, hK, hlk, hr, hnm, rfl, hA, hR1, hR2, hEx⟩ := hX
  cases sk with
  | nil => exact trivial
  | cons v sk =>
  show zr_res _ d pcs k _ (bif zz_isI v then .inl (sk, zz_put1 la i v, h, g, nc, ns) else zz_fail)
  cases hk : zz_isI v with
  | false => exact trivial
  | true =>
  rintro ⟨b1, b2, hn⟩
  refine ⟨b1, b2, fun ρ ν ws H locs ls kk hS => ?_⟩
  show W p l e R s m args below meth c H locs nc ns _ (F0 m (pcs.getD k 0) ls kk)
  rw [hpc]
  obtain ⟨hS1, hG, hH, hL, hV, hP, hD, hS⟩ := hS
  cases kk with
  | nil => exact hV.elim
  | cons x kk =>
  obtain ⟨hx1, hV⟩ := hV
  obtain ⟨y, rfl⟩ := zl_I hk hx1
  refine lv_istore_n hx hb hdg hf (zl_has hL) hi rfl (fun ls2 hl2 => ?_)
  have hn := hn ρ ν ws H locs ls2 kk ⟨hS1, hG, hH, zl_put1 hL hx1 rfl hl2, hV, hP, hD, hS⟩
  rw [hp1] at hn
  exact hn
theorem zo_astore {M : zr_M} {pcs : List Nat} {k pc : Nat} {i : Nat} (hpc : pcs.getD k 0 = pc) (hp1 : pcs.getD (k + 1) 0 = pc + 2) (hdg : decode M.2.1 pc = .ok (.astore i, 2)) (hi : i < M.2.2.1) : zr_Ok M pcs k (zz_store zz_isA i) := by
  intro E d hX st
  obtain ⟨p, l, e, R, s, m, args, below, meth, c, D, A, H0, nL, ρ0, ν0, Qc⟩ := E
  obtain ⟨own, cc, nl, ret, nm⟩ := M
  obtain ⟨sk, la, h, g, nc, ns⟩ := st
  obtain ⟨hx, hb, hml, hown, hts, hK, hlk, hr, hnm, rfl, hA, hR1, hR2, hEx⟩ := hX
  cases sk with
  | nil => exact trivial
  | cons v sk =>
  show zr_res _ d pcs k _ (bif zz_isA v then .inl (sk, zz_put1 la i v, h, g, nc, ns) else zz_fail)
  cases hk : zz_isA v with
  | false => exact trivial
  | true =>
  rintro ⟨b1, b2, hn⟩
  refine ⟨b1, b2, fun ρ ν ws H locs ls kk hS => ?_⟩
  show W p l e R s m args below meth c H locs nc ns _ (F0 m (pcs.getD k 0) ls kk)
  rw [hpc]
  obtain ⟨hS1, hG, hH, hL, hV, hP, hD, hS⟩ := hS
  cases kk with
  | nil => exact hV.elim
  | cons x kk =>
  obtain ⟨hx1, hV⟩ := hV
  obtain ⟨y, rfl⟩ := zl_A hk hx1
  refine lv_astore hx hb hdg (zl_has hL) hi rfl (fun ls2 hl2 => ?_)
  have hn := hn ρ ν ws H locs ls2 kk ⟨hS1, hG, hH, zl_put1 hL hx1 rfl hl2, hV, hP, hD, hS⟩
  rw [hp1] at hn
  exact hn
theorem zo_astore_n {M : zr_M} {pcs : List Nat} {k pc : Nat} {i : Nat} {f : Fin 4} (hf : (f : Nat) = i) (hpc : pcs.getD k 0 = pc) (hp1 : pcs.getD (k + 1) 0 = pc + 1) (hdg : decode M.2.1 pc = .ok (.astore_n f, 1)) (hi : i < M.2.2.1) : zr_Ok M pcs k (zz_store zz_isA i) := by
  intro E d hX st
  obtain ⟨p, l, e, R, s, m, args, below, meth, c, D, A, H0, nL, ρ0, ν0, Qc⟩ := E
  obtain ⟨own, cc, nl, ret, nm⟩ := M
  obtain ⟨sk, la, h, g, nc, ns⟩ := st
  obtain ⟨hx, hb, hml, hown, hts, hK, hlk, hr, hnm, rfl, hA, hR1, hR2, hEx⟩ := hX
  cases sk with
  | nil => exact trivial
  | cons v sk =>
  show zr_res _ d pcs k _ (bif zz_isA v then .inl (sk, zz_put1 la i v, h, g, nc, ns) else zz_fail)
  cases hk : zz_isA v with
  | false => exact trivial
  | true =>
  rintro ⟨b1, b2, hn⟩
  refine ⟨b1, b2, fun ρ ν ws H locs ls kk hS => ?_⟩
  show W p l e R s m args below meth c H locs nc ns _ (F0 m (pcs.getD k 0) ls kk)
  rw [hpc]
  obtain ⟨hS1, hG, hH, hL, hV, hP, hD, hS⟩ := hS
  cases kk with
  | nil => exact hV.elim
  | cons x kk =>
  obtain ⟨hx1, hV⟩ := hV
  obtain ⟨y, rfl⟩ := zl_A hk hx1
  refine lv_astore_n hx hb hdg hf (zl_has hL) hi rfl (fun ls2 hl2 => ?_)
  have hn := hn ρ ν ws H locs ls2 kk ⟨hS1, hG, hH, zl_put1 hL hx1 rfl hl2, hV, hP, hD, hS⟩
  rw [hp1] at hn
  exact hn
theorem zo_lstore {M : zr_M} {pcs : List Nat} {k pc : Nat} {i : Nat} (hpc : pcs.getD k 0 = pc) (hp1 : pcs.getD (k + 1) 0 = pc + 2) (hdg : decode M.2.1 pc = .ok (.lstore i, 2)) (hi : i + 1 < M.2.2.1) : zr_Ok M pcs k (zz_lstore i) := by
  intro E d hX st
  obtain ⟨p, l, e, R, s, m, args, below, meth, c, D, A, H0, nL, ρ0, ν0, Qc⟩ := E
  obtain ⟨own, cc, nl, ret, nm⟩ := M
  obtain ⟨sk, la, h, g, nc, ns⟩ := st
  obtain ⟨hx, hb, hml, hown, hts, hK, hlk, hr, hnm, rfl, hA, hR1, hR2, hEx⟩ := hX
  cases sk with
  | nil => exact trivial
  | cons v sk =>
  show zr_res _ d pcs k _ (bif zz_isJ v then .inl (sk, zz_put2 la i v, h, g, nc, ns) else zz_fail)
  cases hk : zz_isJ v with
  | false => exact trivial
  | true =>
  rintro ⟨b1, b2, hn⟩
  refine ⟨b1, b2, fun ρ ν ws H locs ls kk hS => ?_⟩
  show W p l e R s m args below meth c H locs nc ns _ (F0 m (pcs.getD k 0) ls kk)
  rw [hpc]
  obtain ⟨hS1, hG, hH, hL, hV, hP, hD, hS⟩ := hS
  cases kk with
  | nil => exact hV.elim
  | cons x kk =>
  obtain ⟨hx1, hV⟩ := hV
  obtain ⟨y, rfl⟩ := zl_J hk hx1
  refine lv_lstore hx hb hdg (zl_has hL) hi rfl (fun ls2 hl2 => ?_)
  have hn := hn ρ ν ws H locs ls2 kk ⟨hS1, hG, hH, zl_put2 hL hx1 rfl hl2, hV, hP, hD, hS⟩
  rw [hp1] at hn
  exact hn
theorem zo_lstore_n {M : zr_M} {pcs : List Nat} {k pc : Nat} {i : Nat} {f : Fin 4} (hf : (f : Nat) = i) (hpc : pcs.getD k 0 = pc) (hp1 : pcs.getD (k + 1) 0 = pc + 1) (hdg : decode M.2.1 pc = .ok (.lstore_n f, 1)) (hi : i + 1 < M.2.2.1) : zr_Ok M pcs k (zz_lstore i) := by
  intro E d hX st
  obtain ⟨p, l, e, R, s, m, args, below, meth, c, D, A, H0, nL, ρ0, ν0, Qc⟩ := E
  obtain ⟨own, cc, nl, ret, nm⟩ := M
  obtain ⟨sk, la, h, g, nc, ns⟩ := st
  obtain ⟨hx, hb, hml, hown, hts, hK, hlk, hr, hnm, rfl, hA, hR1, hR2, hEx⟩ := hX
  cases sk with
  | nil => exact trivial
  | cons v sk =>
  show zr_res _ d pcs k _ (bif zz_isJ v then .inl (sk, zz_put2 la i v, h, g, nc, ns) else zz_fail)
  cases hk : zz_isJ v with
  | false => exact trivial
  | true =>
  rintro ⟨b1, b2, hn⟩
  refine ⟨b1, b2, fun ρ ν ws H locs ls kk hS => ?_⟩
  show W p l e R s m args below meth c H locs nc ns _ (F0 m (pcs.getD k 0) ls kk)
  rw [hpc]
  obtain ⟨hS1, hG, hH, hL, hV, hP, hD, hS⟩ := hS
  cases kk with
  | nil => exact hV.elim
  | cons x kk =>
  obtain ⟨hx1, hV⟩ := hV
  obtain ⟨y, rfl⟩ := zl_J hk hx1
  refine lv_lstore_n hx hb hdg hf (zl_has hL) hi rfl (fun ls2 hl2 => ?_)
  have hn := hn ρ ν ws H locs ls2 kk ⟨hS1, hG, hH, zl_put2 hL hx1 rfl hl2, hV, hP, hD, hS⟩
  rw [hp1] at hn
  exact hn
theorem zo_iadd {M : zr_M} {pcs : List Nat} {k pc : Nat} (hpc : pcs.getD k 0 = pc) (hp1 : pcs.getD (k + 1) 0 = pc + 1) (hdg : decode M.2.1 pc = .ok (.iadd, 1)) : zr_Ok M pcs k (zz_bin k zz_add) := by
  intro E d hX st
  obtain ⟨p, l, e, R, s, m, args, below, meth, c, D, A, H0, nL, ρ0, ν0, Qc⟩ := E
  obtain ⟨own, cc, nl, ret, nm⟩ := M
  obtain ⟨sk, la, h, g, nc, ns⟩ := st
  obtain ⟨hx, hb, hml, hown, hts, hK, hlk, hr, hnm, rfl, hA, hR1, hR2, hEx⟩ := hX
  match sk with
  | [] => exact trivial
  | [_] => exact trivial
  | y :: x :: sk =>
  refine zr_ci (st := (y :: x :: sk, la, h, g, nc, ns)) (fun b hb2 => zr_ci (st := (y :: x :: sk, la, h, g, nc, ns)) (fun a ha2 => ?_))
  cases hf : zz_add a b with
  | none => exact trivial
  | some n =>
  rintro ⟨b1, b2, hn⟩
  refine ⟨b1, b2, fun ρ ν ws H locs ls kk hS => ?_⟩
  show W p l e R s m args below meth c H locs nc ns _ (F0 m (pcs.getD k 0) ls kk)
  rw [hpc]
  obtain ⟨hS1, hG, hH, hL, hV, hP, hD, hS⟩ := hS
  match kk, hV with
  | vy :: vx :: kk, ⟨hy1, hx1, hV⟩ =>
  have ey := hb2 ρ ν vy hG hy1
  have ex := ha2 ρ ν vx hG hx1
  subst ey; subst ex
  have hn := hn ρ ν ws H locs ls (.int (nI n) :: kk) ⟨hS1, hG, hH, hL, ⟨rfl, hV⟩, hP, hD, hS⟩
  rw [hp1] at hn
  refine lv_iadd hx hb hdg ?_
  rw [zn_add hf]
  exact hn
theorem zo_isub {M : zr_M} {pcs : List Nat} {k pc : Nat} (hpc : pcs.getD k 0 = pc) (hp1 : pcs.getD (k + 1) 0 = pc + 1) (hdg : decode M.2.1 pc = .ok (.isub, 1)) : zr_Ok M pcs k (zz_bin k zz_sub) := by
  intro E d hX st
  obtain ⟨p, l, e, R, s, m, args, below, meth, c, D, A, H0, nL, ρ0, ν0, Qc⟩ := E
  obtain ⟨own, cc, nl, ret, nm⟩ := M
  obtain ⟨sk, la, h, g, nc, ns⟩ := st
  obtain ⟨hx, hb, hml, hown, hts, hK, hlk, hr, hnm, rfl, hA, hR1, hR2, hEx⟩ := hX
  match sk with
  | [] => exact trivial
  | [_] => exact trivial
  | y :: x :: sk =>
  refine zr_ci (st := (y :: x :: sk, la, h, g, nc, ns)) (fun b hb2 => zr_ci (st := (y :: x :: sk, la, h, g, nc, ns)) (fun a ha2 => ?_))
  cases hf : zz_sub a b with
  | none => exact trivial
  | some n =>
  rintro ⟨b1, b2, hn⟩
  refine ⟨b1, b2, fun ρ ν ws H locs ls kk hS => ?_⟩
  show W p l e R s m args below meth c H locs nc ns _ (F0 m (pcs.getD k 0) ls kk)
  rw [hpc]
  obtain ⟨hS1, hG, hH, hL, hV, hP, hD, hS⟩ := hS
  match kk, hV with
  | vy :: vx :: kk, ⟨hy1, hx1, hV⟩ =>
  have ey := hb2 ρ ν vy hG hy1
  have ex := ha2 ρ ν vx hG hx1
  subst ey; subst ex
  have hn := hn ρ ν ws H locs ls (.int (nI n) :: kk) ⟨hS1, hG, hH, hL, ⟨rfl, hV⟩, hP, hD, hS⟩
  rw [hp1] at hn
  refine lv_isub hx hb hdg ?_
  rw [zn_sub hf]
  exact hn
theorem zo_imul {M : zr_M} {pcs : List Nat} {k pc : Nat} (hpc : pcs.getD k 0 = pc) (hp1 : pcs.getD (k + 1) 0 = pc + 1) (hdg : decode M.2.1 pc = .ok (.imul, 1)) : zr_Ok M pcs k (zz_bin k zz_mul) := by
  intro E d hX st
  obtain ⟨p, l, e, R, s, m, args, below, meth, c, D, A, H0, nL, ρ0, ν0, Qc⟩ := E
  obtain ⟨own, cc, nl, ret, nm⟩ := M
  obtain ⟨sk, la, h, g, nc, ns⟩ := st
  obtain ⟨hx, hb, hml, hown, hts, hK, hlk, hr, hnm, rfl, hA, hR1, hR2, hEx⟩ := hX
  match sk with
  | [] => exact trivial
  | [_] => exact trivial
  | y :: x :: sk =>
  refine zr_ci (st := (y :: x :: sk, la, h, g, nc, ns)) (fun b hb2 => zr_ci (st := (y :: x :: sk, la, h, g, nc, ns)) (fun a ha2 => ?_))
  cases hf : zz_mul a b with
  | none => exact trivial
  | some n =>
  rintro ⟨b1, b2, hn⟩
  refine ⟨b1, b2, fun ρ ν ws H locs ls kk hS => ?_⟩
  show W p l e R s m args below meth c H locs nc ns _ (F0 m (pcs.getD k 0) ls kk)
  rw [hpc]
  obtain ⟨hS1, hG, hH, hL, hV, hP, hD, hS⟩ := hS
  match kk, hV with
  | vy :: vx :: kk, ⟨hy1, hx1, hV⟩ =>
  have ey := hb2 ρ ν vy hG hy1
  have ex := ha2 ρ ν vx hG hx1
  subst ey; subst ex
  have hn := hn ρ ν ws H locs ls (.int (nI n) :: kk) ⟨hS1, hG, hH, hL, ⟨rfl, hV⟩, hP, hD, hS⟩
  rw [hp1] at hn
  refine lv_imul hx hb hdg ?_
  rw [zn_mul hf]
  exact hn
theorem zo_iand {M : zr_M} {pcs : List Nat} {k pc : Nat} (hpc : pcs.getD k 0 = pc) (hp1 : pcs.getD (k + 1) 0 = pc + 1) (hdg : decode M.2.1 pc = .ok (.iand, 1)) : zr_Ok M pcs k (zz_bin k zz_and) := by
  intro E d hX st
  obtain ⟨p, l, e, R, s, m, args, below, meth, c, D, A, H0, nL, ρ0, ν0, Qc⟩ := E
  obtain ⟨own, cc, nl, ret, nm⟩ := M
  obtain ⟨sk, la, h, g, nc, ns⟩ := st
  obtain ⟨hx, hb, hml, hown, hts, hK, hlk, hr, hnm, rfl, hA, hR1, hR2, hEx⟩ := hX
  match sk with
  | [] => exact trivial
  | [_] => exact trivial
  | y :: x :: sk =>
  refine zr_ci (st := (y :: x :: sk, la, h, g, nc, ns)) (fun b hb2 => zr_ci (st := (y :: x :: sk, la, h, g, nc, ns)) (fun a ha2 => ?_))
  cases hf : zz_and a b with
  | none => exact trivial
  | some n =>
  rintro ⟨b1, b2, hn⟩
  refine ⟨b1, b2, fun ρ ν ws H locs ls kk hS => ?_⟩
  show W p l e R s m args below meth c H locs nc ns _ (F0 m (pcs.getD k 0) ls kk)
  rw [hpc]
  obtain ⟨hS1, hG, hH, hL, hV, hP, hD, hS⟩ := hS
  match kk, hV with
  | vy :: vx :: kk, ⟨hy1, hx1, hV⟩ =>
  have ey := hb2 ρ ν vy hG hy1
  have ex := ha2 ρ ν vx hG hx1
  subst ey; subst ex
  have hn := hn ρ ν ws H locs ls (.int (nI n) :: kk) ⟨hS1, hG, hH, hL, ⟨rfl, hV⟩, hP, hD, hS⟩
  rw [hp1] at hn
  refine lv_iand hx hb hdg ?_
  rw [zn_and hf]
  exact hn
theorem zo_ior {M : zr_M} {pcs : List Nat} {k pc : Nat} (hpc : pcs.getD k 0 = pc) (hp1 : pcs.getD (k + 1) 0 = pc + 1) (hdg : decode M.2.1 pc = .ok (.ior, 1)) : zr_Ok M pcs k (zz_bin k zz_or) := by
  intro E d hX st
  obtain ⟨p, l, e, R, s, m, args, below, meth, c, D, A, H0, nL, ρ0, ν0, Qc⟩ := E
  obtain ⟨own, cc, nl, ret, nm⟩ := M
  obtain ⟨sk, la, h, g, nc, ns⟩ := st
  obtain ⟨hx, hb, hml, hown, hts, hK, hlk, hr, hnm, rfl, hA, hR1, hR2, hEx⟩ := hX
  match sk with
  | [] => exact trivial
  | [_] => exact trivial
  | y :: x :: sk =>
  refine zr_ci (st := (y :: x :: sk, la, h, g, nc, ns)) (fun b hb2 => zr_ci (st := (y :: x :: sk, la, h, g, nc, ns)) (fun a ha2 => ?_))
  cases hf : zz_or a b with
  | none => exact trivial
  | some n =>
  rintro ⟨b1, b2, hn⟩
  refine ⟨b1, b2, fun ρ ν ws H locs ls kk hS => ?_⟩
  show W p l e R s m args below meth c H locs nc ns _ (F0 m (pcs.getD k 0) ls kk)
  rw [hpc]
  obtain ⟨hS1, hG, hH, hL, hV, hP, hD, hS⟩ := hS
  match kk, hV with
  | vy :: vx :: kk, ⟨hy1, hx1, hV⟩ =>
  have ey := hb2 ρ ν vy hG hy1
  have ex := ha2 ρ ν vx hG hx1
  subst ey; subst ex
  have hn := hn ρ ν ws H locs ls (.int (nI n) :: kk) ⟨hS1, hG, hH, hL, ⟨rfl, hV⟩, hP, hD, hS⟩
  rw [hp1] at hn
  refine lv_ior hx hb hdg ?_
  rw [zn_or hf]
  exact hn
theorem zo_ixor {M : zr_M} {pcs : List Nat} {k pc : Nat} (hpc : pcs.getD k 0 = pc) (hp1 : pcs.getD (k + 1) 0 = pc + 1) (hdg : decode M.2.1 pc = .ok (.ixor, 1)) : zr_Ok M pcs k (zz_bin k zz_xor) := by
  intro E d hX st
  obtain ⟨p, l, e, R, s, m, args, below, meth, c, D, A, H0, nL, ρ0, ν0, Qc⟩ := E
  obtain ⟨own, cc, nl, ret, nm⟩ := M
  obtain ⟨sk, la, h, g, nc, ns⟩ := st
  obtain ⟨hx, hb, hml, hown, hts, hK, hlk, hr, hnm, rfl, hA, hR1, hR2, hEx⟩ := hX
  match sk with
  | [] => exact trivial
  | [_] => exact trivial
  | y :: x :: sk =>
  refine zr_ci (st := (y :: x :: sk, la, h, g, nc, ns)) (fun b hb2 => zr_ci (st := (y :: x :: sk, la, h, g, nc, ns)) (fun a ha2 => ?_))
  cases hf : zz_xor a b with
  | none => exact trivial
  | some n =>
  rintro ⟨b1, b2, hn⟩
  refine ⟨b1, b2, fun ρ ν ws H locs ls kk hS => ?_⟩
  show W p l e R s m args below meth c H locs nc ns _ (F0 m (pcs.getD k 0) ls kk)
  rw [hpc]
  obtain ⟨hS1, hG, hH, hL, hV, hP, hD, hS⟩ := hS
  match kk, hV with
  | vy :: vx :: kk, ⟨hy1, hx1, hV⟩ =>
  have ey := hb2 ρ ν vy hG hy1
  have ex := ha2 ρ ν vx hG hx1
  subst ey; subst ex
  have hn := hn ρ ν ws H locs ls (.int (nI n) :: kk) ⟨hS1, hG, hH, hL, ⟨rfl, hV⟩, hP, hD, hS⟩
  rw [hp1] at hn
  refine lv_ixor hx hb hdg ?_
  rw [zn_xor hf]
  exact hn
theorem zo_ishl {M : zr_M} {pcs : List Nat} {k pc : Nat} (hpc : pcs.getD k 0 = pc) (hp1 : pcs.getD (k + 1) 0 = pc + 1) (hdg : decode M.2.1 pc = .ok (.ishl, 1)) : zr_Ok M pcs k (zz_bin k zz_shl) := by
  intro E d hX st
  obtain ⟨p, l, e, R, s, m, args, below, meth, c, D, A, H0, nL, ρ0, ν0, Qc⟩ := E
  obtain ⟨own, cc, nl, ret, nm⟩ := M
  obtain ⟨sk, la, h, g, nc, ns⟩ := st
  obtain ⟨hx, hb, hml, hown, hts, hK, hlk, hr, hnm, rfl, hA, hR1, hR2, hEx⟩ := hX
  match sk with
  | [] => exact trivial
  | [_] => exact trivial
  | y :: x :: sk =>
  refine zr_ci (st := (y :: x :: sk, la, h, g, nc, ns)) (fun b hb2 => zr_ci (st := (y :: x :: sk, la, h, g, nc, ns)) (fun a ha2 => ?_))
  cases hf : zz_shl a b with
  | none => exact trivial
  | some n =>
  rintro ⟨b1, b2, hn⟩
  refine ⟨b1, b2, fun ρ ν ws H locs ls kk hS => ?_⟩
  show W p l e R s m args below meth c H locs nc ns _ (F0 m (pcs.getD k 0) ls kk)
  rw [hpc]
  obtain ⟨hS1, hG, hH, hL, hV, hP, hD, hS⟩ := hS
  match kk, hV with
  | vy :: vx :: kk, ⟨hy1, hx1, hV⟩ =>
  have ey := hb2 ρ ν vy hG hy1
  have ex := ha2 ρ ν vx hG hx1
  subst ey; subst ex
  have hn := hn ρ ν ws H locs ls (.int (nI n) :: kk) ⟨hS1, hG, hH, hL, ⟨rfl, hV⟩, hP, hD, hS⟩
  rw [hp1] at hn
  refine lv_ishl hx hb hdg ?_
  rw [zn_shl hf]
  exact hn
theorem zo_ishr {M : zr_M} {pcs : List Nat} {k pc : Nat} (hpc : pcs.getD k 0 = pc) (hp1 : pcs.getD (k + 1) 0 = pc + 1) (hdg : decode M.2.1 pc = .ok (.ishr, 1)) : zr_Ok M pcs k (zz_bin k zz_shr) := by
  intro E d hX st
  obtain ⟨p, l, e, R, s, m, args, below, meth, c, D, A, H0, nL, ρ0, ν0, Qc⟩ := E
  obtain ⟨own, cc, nl, ret, nm⟩ := M
  obtain ⟨sk, la, h, g, nc, ns⟩ := st
  obtain ⟨hx, hb, hml, hown, hts, hK, hlk, hr, hnm, rfl, hA, hR1, hR2, hEx⟩ := hX
  match sk with
  | [] => exact trivial
  | [_] => exact trivial
  | y :: x :: sk =>
  refine zr_ci (st := (y :: x :: sk, la, h, g, nc, ns)) (fun b hb2 => zr_ci (st := (y :: x :: sk, la, h, g, nc, ns)) (fun a ha2 => ?_))
  cases hf : zz_shr a b with
  | none => exact trivial
  | some n =>
  rintro ⟨b1, b2, hn⟩
  refine ⟨b1, b2, fun ρ ν ws H locs ls kk hS => ?_⟩
  show W p l e R s m args below meth c H locs nc ns _ (F0 m (pcs.getD k 0) ls kk)
  rw [hpc]
  obtain ⟨hS1, hG, hH, hL, hV, hP, hD, hS⟩ := hS
  match kk, hV with
  | vy :: vx :: kk, ⟨hy1, hx1, hV⟩ =>
  have ey := hb2 ρ ν vy hG hy1
  have ex := ha2 ρ ν vx hG hx1
  subst ey; subst ex
  have hn := hn ρ ν ws H locs ls (.int (nI n) :: kk) ⟨hS1, hG, hH, hL, ⟨rfl, hV⟩, hP, hD, hS⟩
  rw [hp1] at hn
  refine lv_ishr hx hb hdg ?_
  rw [zn_shr hf]
  exact hn
theorem zo_iushr {M : zr_M} {pcs : List Nat} {k pc : Nat} (hpc : pcs.getD k 0 = pc) (hp1 : pcs.getD (k + 1) 0 = pc + 1) (hdg : decode M.2.1 pc = .ok (.iushr, 1)) : zr_Ok M pcs k (zz_bin k zz_ushr) := by
  intro E d hX st
  obtain ⟨p, l, e, R, s, m, args, below, meth, c, D, A, H0, nL, ρ0, ν0, Qc⟩ := E
  obtain ⟨own, cc, nl, ret, nm⟩ := M
  obtain ⟨sk, la, h, g, nc, ns⟩ := st
  obtain ⟨hx, hb, hml, hown, hts, hK, hlk, hr, hnm, rfl, hA, hR1, hR2, hEx⟩ := hX
  match sk with
  | [] => exact trivial
  | [_] => exact trivial
  | y :: x :: sk =>
  refine zr_ci (st := (y :: x :: sk, la, h, g, nc, ns)) (fun b hb2 => zr_ci (st := (y :: x :: sk, la, h, g, nc, ns)) (fun a ha2 => ?_))
  cases hf : zz_ushr a b with
  | none => exact trivial
  | some n =>
  rintro ⟨b1, b2, hn⟩
  refine ⟨b1, b2, fun ρ ν ws H locs ls kk hS => ?_⟩
  show W p l e R s m args below meth c H locs nc ns _ (F0 m (pcs.getD k 0) ls kk)
  rw [hpc]
  obtain ⟨hS1, hG, hH, hL, hV, hP, hD, hS⟩ := hS
  match kk, hV with
  | vy :: vx :: kk, ⟨hy1, hx1, hV⟩ =>
  have ey := hb2 ρ ν vy hG hy1
  have ex := ha2 ρ ν vx hG hx1
  subst ey; subst ex
  have hn := hn ρ ν ws H locs ls (.int (nI n) :: kk) ⟨hS1, hG, hH, hL, ⟨rfl, hV⟩, hP, hD, hS⟩
  rw [hp1] at hn
  exact lv_iushr hx hb hdg (zn_ushr hf) hn
theorem zo_ineg {M : zr_M} {pcs : List Nat} {k pc : Nat} (hpc : pcs.getD k 0 = pc) (hp1 : pcs.getD (k + 1) 0 = pc + 1) (hdg : decode M.2.1 pc = .ok (.ineg, 1)) : zr_Ok M pcs k (zz_neg k) := by
  intro E d hX st
  obtain ⟨p, l, e, R, s, m, args, below, meth, c, D, A, H0, nL, ρ0, ν0, Qc⟩ := E
  obtain ⟨own, cc, nl, ret, nm⟩ := M
  obtain ⟨sk, la, h, g, nc, ns⟩ := st
  obtain ⟨hx, hb, hml, hown, hts, hK, hlk, hr, hnm, rfl, hA, hR1, hR2, hEx⟩ := hX
  cases sk with
  | nil => exact trivial
  | cons x sk =>
  refine zr_ci (st := (x :: sk, la, h, g, nc, ns)) (fun a ha2 => ?_)
  rintro ⟨b1, b2, hn⟩
  refine ⟨b1, b2, fun ρ ν ws H locs ls kk hS => ?_⟩
  show W p l e R s m args below meth c H locs nc ns _ (F0 m (pcs.getD k 0) ls kk)
  rw [hpc]
  obtain ⟨hS1, hG, hH, hL, hV, hP, hD, hS⟩ := hS
  match kk, hV with
  | vx :: kk, ⟨hx1, hV⟩ =>
  have ex := ha2 ρ ν vx hG hx1
  subst ex
  have hn := hn ρ ν ws H locs ls (.int (nI ((4294967296 - a % 4294967296) % 4294967296)) :: kk) ⟨hS1, hG, hH, hL, ⟨rfl, hV⟩, hP, hD, hS⟩
  rw [hp1] at hn
  refine lv_ineg hx hb hdg ?_
  rw [zn_neg]
  exact hn
theorem zo_i2l {M : zr_M} {pcs : List Nat} {k pc : Nat} (hpc : pcs.getD k 0 = pc) (hp1 : pcs.getD (k + 1) 0 = pc + 1) (hdg : decode M.2.1 pc = .ok (.i2l, 1)) : zr_Ok M pcs k (zz_i2l k) := by
  intro E d hX st
  obtain ⟨p, l, e, R, s, m, args, below, meth, c, D, A, H0, nL, ρ0, ν0, Qc⟩ := E
  obtain ⟨own, cc, nl, ret, nm⟩ := M
  obtain ⟨sk, la, h, g, nc, ns⟩ := st
  obtain ⟨hx, hb, hml, hown, hts, hK, hlk, hr, hnm, rfl, hA, hR1, hR2, hEx⟩ := hX
  cases sk with
  | nil => exact trivial
  | cons x sk =>
  refine zr_ci (st := (x :: sk, la, h, g, nc, ns)) (fun a ha2 => ?_)
  rintro ⟨b1, b2, hn⟩
  refine ⟨b1, b2, fun ρ ν ws H locs ls kk hS => ?_⟩
  show W p l e R s m args below meth c H locs nc ns _ (F0 m (pcs.getD k 0) ls kk)
  rw [hpc]
  obtain ⟨hS1, hG, hH, hL, hV, hP, hD, hS⟩ := hS
  match kk, hV with
  | vx :: kk, ⟨hx1, hV⟩ =>
  have ex := ha2 ρ ν vx hG hx1
  subst ex
  have hn := hn ρ ν ws H locs ls (.long (lN (zz_sx a)) :: kk) ⟨hS1, hG, hH, hL, ⟨rfl, hV⟩, hP, hD, hS⟩
  rw [hp1] at hn
  exact lv_i2l hx hb hdg (zn_i2l a) hn
theorem zo_ladd {M : zr_M} {pcs : List Nat} {k pc : Nat} (hpc : pcs.getD k 0 = pc) (hp1 : pcs.getD (k + 1) 0 = pc + 1) (hdg : decode M.2.1 pc = .ok (.ladd, 1)) : zr_Ok M pcs k (zz_lbin zz_ladd) := by
  intro E d hX st
  obtain ⟨p, l, e, R, s, m, args, below, meth, c, D, A, H0, nL, ρ0, ν0, Qc⟩ := E
  obtain ⟨own, cc, nl, ret, nm⟩ := M
  obtain ⟨sk, la, h, g, nc, ns⟩ := st
  obtain ⟨hx, hb, hml, hown, hts, hK, hlk, hr, hnm, rfl, hA, hR1, hR2, hEx⟩ := hX
  match sk with
  | [] => exact trivial
  | [v] => rcases v with v | v | v | v <;> exact trivial
  | .inl _ :: _ :: _ => exact trivial
  | .inr (.inl _) :: _ :: _ => exact trivial
  | .inr (.inr (.inr _)) :: _ :: _ => exact trivial
  | .inr (.inr (.inl _)) :: .inl _ :: _ => exact trivial
  | .inr (.inr (.inl _)) :: .inr (.inl _) :: _ => exact trivial
  | .inr (.inr (.inl _)) :: .inr (.inr (.inr _)) :: _ => exact trivial
  | .inr (.inr (.inl b)) :: .inr (.inr (.inl a)) :: sk =>
  rintro ⟨b1, b2, hn⟩
  refine ⟨b1, b2, fun ρ ν ws H locs ls kk hS => ?_⟩
  show W p l e R s m args below meth c H locs nc ns _ (F0 m (pcs.getD k 0) ls kk)
  rw [hpc]
  obtain ⟨hS1, hG, hH, hL, hV, hP, hD, hS⟩ := hS
  match kk, hV with
  | _ :: _ :: kk, ⟨rfl, rfl, hV⟩ =>
  have hn := hn ρ ν ws H locs ls (.long (lN (zz_ladd a b)) :: kk) ⟨hS1, hG, hH, hL, ⟨rfl, hV⟩, hP, hD, hS⟩
  rw [hp1] at hn
  refine lv_ladd hx hb hdg ?_
  rw [zn_ladd]
  exact hn
theorem zo_lmul {M : zr_M} {pcs : List Nat} {k pc : Nat} (hpc : pcs.getD k 0 = pc) (hp1 : pcs.getD (k + 1) 0 = pc + 1) (hdg : decode M.2.1 pc = .ok (.lmul, 1)) : zr_Ok M pcs k (zz_lbin zz_lmul) := by
  intro E d hX st
  obtain ⟨p, l, e, R, s, m, args, below, meth, c, D, A, H0, nL, ρ0, ν0, Qc⟩ := E
  obtain ⟨own, cc, nl, ret, nm⟩ := M
  obtain ⟨sk, la, h, g, nc, ns⟩ := st
  obtain ⟨hx, hb, hml, hown, hts, hK, hlk, hr, hnm, rfl, hA, hR1, hR2, hEx⟩ := hX
  match sk with
  | [] => exact trivial
  | [v] => rcases v with v | v | v | v <;> exact trivial
  | .inl _ :: _ :: _ => exact trivial
  | .inr (.inl _) :: _ :: _ => exact trivial
  | .inr (.inr (.inr _)) :: _ :: _ => exact trivial
  | .inr (.inr (.inl _)) :: .inl _ :: _ => exact trivial
  | .inr (.inr (.inl _)) :: .inr (.inl _) :: _ => exact trivial
  | .inr (.inr (.inl _)) :: .inr (.inr (.inr _)) :: _ => exact trivial
  | .inr (.inr (.inl b)) :: .inr (.inr (.inl a)) :: sk =>
  rintro ⟨b1, b2, hn⟩
  refine ⟨b1, b2, fun ρ ν ws H locs ls kk hS => ?_⟩
  show W p l e R s m args below meth c H locs nc ns _ (F0 m (pcs.getD k 0) ls kk)
  rw [hpc]
  obtain ⟨hS1, hG, hH, hL, hV, hP, hD, hS⟩ := hS
  match kk, hV with
  | _ :: _ :: kk, ⟨rfl, rfl, hV⟩ =>
  have hn := hn ρ ν ws H locs ls (.long (lN (zz_lmul a b)) :: kk) ⟨hS1, hG, hH, hL, ⟨rfl, hV⟩, hP, hD, hS⟩
  rw [hp1] at hn
  refine lv_lmul hx hb hdg ?_
  rw [zn_lmul]
  exact hn
theorem zo_dup {M : zr_M} {pcs : List Nat} {k pc : Nat} (hpc : pcs.getD k 0 = pc) (hp1 : pcs.getD (k + 1) 0 = pc + 1) (hdg : decode M.2.1 pc = .ok (.dup, 1)) : zr_Ok M pcs k (zz_dup) := by
  intro E d hX st
  obtain ⟨p, l, e, R, s, m, args, below, meth, c, D, A, H0, nL, ρ0, ν0, Qc⟩ := E
  obtain ⟨own, cc, nl, ret, nm⟩ := M
  obtain ⟨sk, la, h, g, nc, ns⟩ := st
  obtain ⟨hx, hb, hml, hown, hts, hK, hlk, hr, hnm, rfl, hA, hR1, hR2, hEx⟩ := hX
  cases sk with
  | nil => exact trivial
  | cons v sk =>
  show zr_res _ d pcs k _ (bif zz_isJ v then zz_fail else .inl (v :: v :: sk, la, h, g, nc, ns))
  cases hk : zz_isJ v with
  | true => exact trivial
  | false =>
  rintro ⟨b1, b2, hn⟩
  refine ⟨b1, b2, fun ρ ν ws H locs ls kk hS => ?_⟩
  show W p l e R s m args below meth c H locs nc ns _ (F0 m (pcs.getD k 0) ls kk)
  rw [hpc]
  obtain ⟨hS1, hG, hH, hL, hV, hP, hD, hS⟩ := hS
  match kk, hV with
  | x :: kk, ⟨hx1, hV⟩ =>
  have hn := hn ρ ν ws H locs ls (x :: x :: kk) ⟨hS1, hG, hH, hL, ⟨hx1, hx1, hV⟩, hP, hD, hS⟩
  rw [hp1] at hn
  exact lv_dup hx hb hdg (zl_cat1 hk hx1) hn
theorem zo_pop {M : zr_M} {pcs : List Nat} {k pc : Nat} (hpc : pcs.getD k 0 = pc) (hp1 : pcs.getD (k + 1) 0 = pc + 1) (hdg : decode M.2.1 pc = .ok (.pop, 1)) : zr_Ok M pcs k (zz_pop) := by
  intro E d hX st
  obtain ⟨p, l, e, R, s, m, args, below, meth, c, D, A, H0, nL, ρ0, ν0, Qc⟩ := E
  obtain ⟨own, cc, nl, ret, nm⟩ := M
  obtain ⟨sk, la, h, g, nc, ns⟩ := st
  obtain ⟨hx, hb, hml, hown, hts, hK, hlk, hr, hnm, rfl, hA, hR1, hR2, hEx⟩ := hX
  cases sk with
  | nil => exact trivial
  | cons v sk =>
  show zr_res _ d pcs k _ (bif zz_isJ v then zz_fail else .inl (sk, la, h, g, nc, ns))
  cases hk : zz_isJ v with
  | true => exact trivial
  | false =>
  rintro ⟨b1, b2, hn⟩
  refine ⟨b1, b2, fun ρ ν ws H locs ls kk hS => ?_⟩
  show W p l e R s m args below meth c H locs nc ns _ (F0 m (pcs.getD k 0) ls kk)
  rw [hpc]
  obtain ⟨hS1, hG, hH, hL, hV, hP, hD, hS⟩ := hS
  match kk, hV with
  | x :: kk, ⟨hx1, hV⟩ =>
  have hn := hn ρ ν ws H locs ls kk ⟨hS1, hG, hH, hL, hV, hP, hD, hS⟩
  rw [hp1] at hn
  exact lv_pop hx hb hdg (zl_cat1 hk hx1) hn
theorem zo_dup2 {M : zr_M} {pcs : List Nat} {k pc : Nat} (hpc : pcs.getD k 0 = pc) (hp1 : pcs.getD (k + 1) 0 = pc + 1) (hdg : decode M.2.1 pc = .ok (.dup2, 1)) : zr_Ok M pcs k (zz_dup2) := by
  intro E d hX st
  obtain ⟨p, l, e, R, s, m, args, below, meth, c, D, A, H0, nL, ρ0, ν0, Qc⟩ := E
  obtain ⟨own, cc, nl, ret, nm⟩ := M
  obtain ⟨sk, la, h, g, nc, ns⟩ := st
  obtain ⟨hx, hb, hml, hown, hts, hK, hlk, hr, hnm, rfl, hA, hR1, hR2, hEx⟩ := hX
  match sk with
  | [] => exact trivial
  | [_] => exact trivial
  | v :: w :: sk =>
  show zr_res _ d pcs k _ (bif zz_isJ v || zz_isJ w then zz_fail else .inl (v :: w :: v :: w :: sk, la, h, g, nc, ns))
  cases hk : zz_isJ v with
  | true => exact trivial
  | false =>
  cases hk2 : zz_isJ w with
  | true => exact trivial
  | false =>
  rintro ⟨b1, b2, hn⟩
  refine ⟨b1, b2, fun ρ ν ws H locs ls kk hS => ?_⟩
  show W p l e R s m args below meth c H locs nc ns _ (F0 m (pcs.getD k 0) ls kk)
  rw [hpc]
  obtain ⟨hS1, hG, hH, hL, hV, hP, hD, hS⟩ := hS
  match kk, hV with
  | x :: y :: kk, ⟨hx1, hy1, hV⟩ =>
  have hn := hn ρ ν ws H locs ls (x :: y :: x :: y :: kk) ⟨hS1, hG, hH, hL, ⟨hx1, hy1, hx1, hy1, hV⟩, hP, hD, hS⟩
  rw [hp1] at hn
  exact lv_dup2_11 hx hb hdg (zl_cat1 hk hx1) (zl_cat1 hk2 hy1) hn
theorem zo_goto {M : zr_M} {pcs : List Nat} {k pc t tgt : Nat} {off : Int} (hpc : pcs.getD k 0 = pc) (hpt : pcs.getD t 0 = tgt) (hdg : decode M.2.1 pc = .ok (.goto off, 3)) (ht : (pc : Int) + off = (tgt : Int)) : zr_Ok M pcs k (zz_goto t) := by
  intro E d hX st
  obtain ⟨p, l, e, R, s, m, args, below, meth, c, D, A, H0, nL, ρ0, ν0, Qc⟩ := E
  obtain ⟨own, cc, nl, ret, nm⟩ := M
  obtain ⟨sk, la, h, g, nc, ns⟩ := st
  obtain ⟨hx, hb, hml, hown, hts, hK, hlk, hr, hnm, rfl, hA, hR1, hR2, hEx⟩ := hX
  rintro ⟨b1, b2, hn⟩
  refine ⟨b1, b2, fun ρ ν ws H locs ls kk hS => ?_⟩
  show W p l e R s m args below meth c H locs nc ns _ (F0 m (pcs.getD k 0) ls kk)
  rw [hpc]
  obtain ⟨hS1, hG, hH, hL, hV, hP, hD, hS⟩ := hS
  have hn := hn ρ ν ws H locs ls kk ⟨hS1, hG, hH, hL, hV, hP, hD, hS⟩
  rw [hpt] at hn
  exact lv_goto hx hb hdg ht hn
