/-! WHAT AN ABSTRACT STATE SAYS of the machine: ρ are the addresses of the cells, ν the unknown ints -/
/-- the tables' words that go over to a callee -/
def zg_tbl : List Cond := lw_tbl.filter goodWord
abbrev zz_cl : List vw_C := [(RX0, TX0, 12), (RX1, TX1, 11), (RX2, TX2, 4), (RX3, TX3, 12), (RX4, TX4, 5), (RX7, TX7, 4), (RX8, TX8, 35)]
/-- a word with a digit that isn't 1 -/
def zr_bad (i : Int32) : Prop := 0 ≤ i.toInt ∧ i ≠ 0 ∧ i ≠ 1 ∧ i ≠ 11 ∧ i ≠ 111 ∧ i ≠ 1111 ∧ i ≠ 11111 ∧ i ≠ 111111 ∧ i ≠ 1111111 ∧ i ≠ 11111111 ∧ i ≠ 111111111 ∧ i ≠ 1111111111
def zr_V (ρ : List Nat) (ν : List Int32) (a : zz_V) (v : Value) : Prop := match a with
  | .inl n => v = .int (nI n)
  | .inr (.inl 0) => v = .null
  | .inr (.inl (a + 1)) => ∃ q : Nat, ρ[a]? = some q ∧ v = .ref q
  | .inr (.inr (.inl n)) => v = .long (lN n)
  | .inr (.inr (.inr k)) => ∃ i : Int32, ν[k]? = some i ∧ v = .int i
def zr_Vs (ρ : List Nat) (ν : List Int32) : List zz_V → List Value → Prop
  | [], [] => True
  | a :: as, v :: vs => zr_V ρ ν a v ∧ zr_Vs ρ ν as vs
  | _, _ => False
def zr_Vo (ρ : List Nat) (ν : List Int32) : Option zz_V → Option Value → Prop
  | none, none => True
  | some a, some v => zr_V ρ ν a v
  | _, _ => False
def zr_ty (kd : Nat) : FieldType := match kd with
  | 0 => .int
  | 1 => .boolean
  | 2 => .long
  | _ => .object "EvenBodies$Body"
def zr_A (U : State) (cA : ClassId) (ty : FieldType) : Prop := ArrOfT U cA ty ∧ va_RA U cA ty
def zr_R (ρ : List Nat) (n : Nat) (o : Option Nat) : Prop := (n = 0 ∧ o = none) ∨ ∃ a q : Nat, n = a + 1 ∧ ρ[a]? = some q ∧ o = some q
def zr_arr (ρ : List Nat) (kd n d p : Nat) (x : vp_A) : Prop :=
  (kd = 0 ∧ ∃ f : Nat → Int32, x = (n, .inl f) ∧ ∀ i, i < n → f i = nI (zz_el d p i)) ∨
  (kd = 1 ∧ ∃ f : Nat → Int32, x = (n, .inl f) ∧ ∀ i, i < n → f i = nI (zz_el d p i)) ∨
  (kd = 2 ∧ ∃ f : Nat → Int64, x = (n, .inr (.inl f)) ∧ ∀ i, i < n → f i = lN (zz_el d p i)) ∨
  (kd = 3 ∧ ∃ f : Nat → Option Nat, x = (n, .inr (.inr (.inr (.inr f)))) ∧ ∀ i, i < n → zr_R ρ (zz_el d p i) (f i))
def zr_C (U : State) (ρ : List Nat) (ν : List Int32) (c : zz_C) (e : va_E) : Prop := match c, e with
  | .inl (ci, fs), .inr (ci2, vs) => ci = ci2 ∧ zr_Vs ρ ν fs vs
  | .inr (kd, n, d, p), .inl (cA, x) => (n < 2147483648 ∧ d < 18446744073709551616) ∧ zr_A U cA (zr_ty kd) ∧ zr_arr ρ kd n d p x
  | _, _ => False
def zr_H (U : State) (ρ : List Nat) (ν : List Int32) (h : List zz_C) (ws : va_W) : Prop := ws.map Prod.fst = ρ ∧ h.length = ws.length ∧ ∀ (k : Nat) (c : zz_C), h[k]? = some c → ∃ (q : Nat) (e : va_E), ws[k]? = some (q, e) ∧ zr_C U ρ ν c e
def zr_L (ρ : List Nat) (ν : List Int32) (la : List (Option zz_V)) (ls : Array Slot) (nL : Nat) : Prop := ls.size = nL ∧ lv_wf ls ∧ ∀ (k : Nat) (a : zz_V), la[k]? = some (some a) → ∃ v : Value, zr_V ρ ν a v ∧ ls[k]? = some (.val v)
/-- an int plus 2^31 -/
def zr_b (i : Int32) : Nat := (i.toInt + 2147483648).toNat
def zr_G (g : zz_G) (ν : List Int32) : Prop := g.length = ν.length ∧ ∀ (k lo hi tag : Nat), g[k]? = some (lo, hi, tag) → ∃ i : Int32, ν[k]? = some i ∧ lo ≤ zr_b i ∧ zr_b i ≤ hi ∧ (tag = 1 → zr_bad i)
/-- two words of the tables that do not go over to a callee by themselves -/
def zr_Ex (U : State) : Prop := va_AO "EvenBodies$Body" U ∧ va_Nw (.methodLinkNest RX7 15 yX0_init "EvenBodies") U
/-- the machine around a method's walk: program, launch, env, room, the state at its entry, which method, arguments, what is below, method, code, tables, what it may write, the heap at its entry, locals, addresses and unknowns at its entry, what is to hold at its end -/
abbrev zr_E : Type := Program × Launch × Env × Room × State × MethodId × Array Value × List Frame × Method × Code × va_G × (Nat → Prop) × Heap × Nat × List Nat × List Int32 × (Array Value → State → Outcome → State → Prop)
def zr_S (D : va_G) (s : State) (A : Nat → Prop) (H0 : Heap) (nL : Nat) (ρ0 : List Nat) (ν0 : List Int32) (st : zz_S) (ρ : List Nat) (ν : List Int32) (ws : va_W) (H : Heap) (locs : List Loc) (ls : Array Slot) (k : List Value) : Prop :=
  (ρ0 <+: ρ ∧ ν0 <+: ν) ∧ zr_G st.2.2.2.1 ν ∧ zr_H s ρ ν st.2.2.1 ws ∧ zr_L ρ ν st.2.1 ls nL ∧ zr_Vs ρ ν st.1 k ∧ va_P D zz_cl ws H ∧ va_D A ws ∧ va_S A H0 H locs
def zr_W (E : zr_E) (pc : Nat) (st : zz_S) : Prop := match E with
  | (p, l, e, R, s, m, args, below, meth, c, D, A, H0, nL, ρ0, ν0, Qc) => st.2.2.2.2.1 ≤ R.cells ∧ st.2.2.2.2.2 ≤ R.slots ∧ ∀ (ρ : List Nat) (ν : List Int32) (ws : va_W) (H : Heap) (locs : List Loc) (ls : Array Slot) (k : List Value), zr_S D s A H0 nL ρ0 ν0 st ρ ν ws H locs ls k → W p l e R s m args below meth c H locs st.2.2.2.2.1 st.2.2.2.2.2 (MQ below Qc args s R.cells R.slots A) (F0 m pc ls k)
def zr_rm (d mc ms : Nat) : Room := { frames := d, cells := mc, slots := ms, locals := 39 * d }
/-- a method: its owner's name, its bytes, its return type, its name -/
abbrev zr_M : Type := String × ByteArray × Nat × Option FieldType × String
def zr_X (M : zr_M) (d : Nat) (E : zr_E) : Prop := match M, E with
  | (own, cc, n, ret, nm), (p, _, _, R, s, m, args, _, meth, c, D, A, H0, nL, _, _, _) => p.tables.exec = Jvm.exec ∧ c.code = cc ∧ c.maxLocals = n ∧ s.vm.findClass own = some m.cls ∧ (∀ w ∈ zg_tbl, w.before args s = true) ∧ va_K D zz_cl [] s ∧ meth.locks = false ∧ meth.sig.returnType = ret ∧ meth.name = nm ∧ nL = n ∧ (∀ q : Nat, H0.size ≤ q → A q) ∧ R.frames = d + 1 ∧ R.locals = 39 * (d + 1) ∧ zr_Ex s
/-- what a method's end must give -/
def zr_end (E : zr_E) (v : Option zz_V) (st : zz_S) : Prop := match E with
  | (_, _, _, R, s, _, args, _, _, _, D, A, H0, _, ρ0, ν0, Qc) => st.2.2.2.2.1 ≤ R.cells ∧ st.2.2.2.2.2 ≤ R.slots ∧ ∀ (ρ : List Nat) (ν : List Int32) (ws : va_W) (H : Heap) (locs : List Loc) (rv : Option Value), ρ0 <+: ρ → ν0 <+: ν → zr_G st.2.2.2.1 ν → zr_H s ρ ν st.2.2.1 ws → zr_Vo ρ ν v rv → va_P D zz_cl ws H → va_D A ws → va_S A H0 H locs → ∀ t : State, t.heap = H → s.WarmedH t.vm → Qc args s (.returned rv) t
-- first laws
theorem zr_Ex.warm {u U : State} (hW : u.WarmedH U.vm) (h : zr_Ex u) : zr_Ex U := ⟨va_AO.moved hW.alike h.1, va_Nw.warmM hW h.2⟩
theorem zl_pre {α : Type} {l l2 : List α} (h : l <+: l2) {k : Nat} {x : α} (hk : l[k]? = some x) : l2[k]? = some x := by
  obtain ⟨t, rfl⟩ := h
  rw [List.getElem?_append_left (List.getElem?_eq_some_iff.mp hk).1]
  exact hk
theorem zl_nth {α : Type} (l : List α) (k : Nat) : zz_nth l k = l[k]? := by
  induction k generalizing l with
  | zero => cases l <;> rfl
  | succ k ih => cases l with
    | nil => exact (ih []).trans (by simp)
    | cons a t => exact (ih t).trans (by simp)
theorem zl_set {α : Type} (x : α) (l : List α) (k : Nat) : zz_set x l k = l.set k x := by
  induction k generalizing l with
  | zero => cases l <;> rfl
  | succ k ih => cases l with
    | nil => rfl
    | cons a t => exact congrArg (a :: ·) (ih t)
theorem zl_drop {α : Type} (k : Nat) (l : List α) : zz_drop k l = l.drop k := by
  induction k generalizing l with
  | zero => rfl
  | succ k ih => cases l with
    | nil => exact (ih []).trans (by simp)
    | cons a t => exact (ih t).trans (by simp)
theorem zr_V.mono {ρ ρ2 : List Nat} {ν ν2 : List Int32} {a : zz_V} {v : Value} (h1 : ρ <+: ρ2) (h2 : ν <+: ν2) (h : zr_V ρ ν a v) : zr_V ρ2 ν2 a v := by
  match a, h with
  | .inl n, h => exact h
  | .inr (.inl 0), h => exact h
  | .inr (.inl (a + 1)), ⟨q, hq, e⟩ => exact ⟨q, zl_pre h1 hq, e⟩
  | .inr (.inr (.inl n)), h => exact h
  | .inr (.inr (.inr k)), ⟨i, hi, e⟩ => exact ⟨i, zl_pre h2 hi, e⟩
theorem zr_Vs.mono {ρ ρ2 : List Nat} {ν ν2 : List Int32} (h1 : ρ <+: ρ2) (h2 : ν <+: ν2) : ∀ {as : List zz_V} {vs : List Value}, zr_Vs ρ ν as vs → zr_Vs ρ2 ν2 as vs
  | [], [], _ => trivial
  | _ :: _, _ :: _, h => ⟨h.1.mono h1 h2, zr_Vs.mono h1 h2 h.2⟩
theorem zr_Vs.len {ρ : List Nat} {ν : List Int32} : ∀ {as : List zz_V} {vs : List Value}, zr_Vs ρ ν as vs → as.length = vs.length
  | [], [], _ => rfl
  | _ :: _, _ :: _, h => congrArg Nat.succ (zr_Vs.len h.2)
theorem zr_Vs.at {ρ : List Nat} {ν : List Int32} : ∀ {as : List zz_V} {vs : List Value}, zr_Vs ρ ν as vs → ∀ {k : Nat} {a : zz_V}, as[k]? = some a → ∃ v, vs[k]? = some v ∧ zr_V ρ ν a v
  | _ :: _, _ :: _, h, 0, _, hk => ⟨_, rfl, (Option.some.inj hk) ▸ h.1⟩
  | _ :: _, _ :: _, h, _ + 1, _, hk => zr_Vs.at h.2 hk
theorem zr_Vs.set {ρ : List Nat} {ν : List Int32} : ∀ {as : List zz_V} {vs : List Value}, zr_Vs ρ ν as vs → ∀ {k : Nat} {a : zz_V} {v : Value}, zr_V ρ ν a v → zr_Vs ρ ν (as.set k a) (vs.set k v)
  | [], [], _, _, _, _, _ => trivial
  | _ :: _, _ :: _, h, 0, _, _, hv => ⟨hv, h.2⟩
  | _ :: _, _ :: _, h, _ + 1, _, _, hv => ⟨h.1, zr_Vs.set h.2 hv⟩
theorem zr_R.mono {ρ ρ2 : List Nat} (h1 : ρ <+: ρ2) {n : Nat} {o : Option Nat} (h : zr_R ρ n o) : zr_R ρ2 n o := by
  rcases h with h | ⟨a, q, e1, e2, e3⟩
  · exact Or.inl h
  · exact Or.inr ⟨a, q, e1, zl_pre h1 e2, e3⟩
theorem zr_arr.mono {ρ ρ2 : List Nat} (h1 : ρ <+: ρ2) {kd n d p : Nat} {x : vp_A} (h : zr_arr ρ kd n d p x) : zr_arr ρ2 kd n d p x := by
  rcases h with h | h | h | ⟨e, f, hf, hi⟩
  · exact Or.inl h
  · exact Or.inr (Or.inl h)
  · exact Or.inr (Or.inr (Or.inl h))
  · exact Or.inr (Or.inr (Or.inr ⟨e, f, hf, fun i hl => (hi i hl).mono h1⟩))
theorem zr_C.mono {U : State} {ρ ρ2 : List Nat} {ν ν2 : List Int32} {c : zz_C} {e : va_E} (h1 : ρ <+: ρ2) (h2 : ν <+: ν2) (h : zr_C U ρ ν c e) : zr_C U ρ2 ν2 c e := by
  match c, e, h with
  | .inl (ci, fs), .inr (ci2, vs), h => exact ⟨h.1, h.2.mono h1 h2⟩
  | .inr (kd, n, d, p), .inl (cA, x), h => exact ⟨h.1, h.2.1, h.2.2.mono h1⟩
theorem zr_C.moved {U T : State} {ρ : List Nat} {ν : List Int32} {c : zz_C} {e : va_E} (hvm : U.vm.Alike T.vm) (h : zr_C U ρ ν c e) : zr_C T ρ ν c e := by
  match c, e, h with
  | .inl (ci, fs), .inr (ci2, vs), h => exact h
  | .inr (kd, n, d, p), .inl (cA, x), h => exact ⟨h.1, ⟨arrOfT_moved hvm h.2.1.1, h.2.1.2.moved hvm⟩, h.2.2⟩
theorem zr_H.moved {U T : State} {ρ : List Nat} {ν : List Int32} {h : List zz_C} {ws : va_W} (hvm : U.vm.Alike T.vm) (hh : zr_H U ρ ν h ws) : zr_H T ρ ν h ws :=
  ⟨hh.1, hh.2.1, fun k c hk => by obtain ⟨q, e, h1, h2⟩ := hh.2.2 k c hk; exact ⟨q, e, h1, h2.moved hvm⟩⟩
theorem zr_H.nu {U : State} {ρ : List Nat} {ν ν2 : List Int32} {h : List zz_C} {ws : va_W} (h2 : ν <+: ν2) (hh : zr_H U ρ ν h ws) : zr_H U ρ ν2 h ws :=
  ⟨hh.1, hh.2.1, fun k c hk => by obtain ⟨q, e, h1, h3⟩ := hh.2.2 k c hk; exact ⟨q, e, h1, h3.mono (List.prefix_refl _) h2⟩⟩
theorem zr_H.ref {U : State} {ρ : List Nat} {ν : List Int32} {h : List zz_C} {ws : va_W} (hh : zr_H U ρ ν h ws) {k q : Nat} {e : va_E} (hk : ws[k]? = some (q, e)) : ρ[k]? = some q := by
  rw [← hh.1, List.getElem?_map, hk]
  rfl
/-- a cell by its abstract address -/
theorem zr_H.cell {U : State} {ρ : List Nat} {ν : List Int32} {h : List zz_C} {ws : va_W} (hh : zr_H U ρ ν h ws) {a : Nat} {c : zz_C} (hk : h[a]? = some c) {q : Nat} (hq : ρ[a]? = some q) : ∃ e : va_E, ws[a]? = some (q, e) ∧ zr_C U ρ ν c e := by
  obtain ⟨q2, e, h1, h2⟩ := hh.2.2 a c hk
  have := hh.ref h1
  rw [hq] at this
  cases this
  exact ⟨e, h1, h2⟩
theorem zr_H.set {U : State} {ρ : List Nat} {ν : List Int32} {h : List zz_C} {ws : va_W} (hh : zr_H U ρ ν h ws) {a q : Nat} {e e2 : va_E} {c : zz_C} (hk : ws[a]? = some (q, e)) (hc : zr_C U ρ ν c e2) : zr_H U ρ ν (h.set a c) (ws.set a (q, e2)) := by
  have hl : a < ws.length := (List.getElem?_eq_some_iff.mp hk).1
  refine ⟨?_, by simp [hh.2.1], fun k c2 hk2 => ?_⟩
  · rw [← hh.1, List.map_set]
    refine List.ext_getElem? fun i => ?_
    by_cases hi : a = i
    · subst hi
      rw [List.getElem?_set_self (by simpa using hl), List.getElem?_map, hk]
      rfl
    · rw [List.getElem?_set_ne hi]
  · by_cases hi : a = k
    · subst hi
      rw [List.getElem?_set_self (by rw [hh.2.1]; exact hl)] at hk2
      cases hk2
      exact ⟨q, e2, List.getElem?_set_self hl, hc⟩
    · rw [List.getElem?_set_ne hi] at hk2
      obtain ⟨q3, e3, h1, h2⟩ := hh.2.2 k c2 hk2
      exact ⟨q3, e3, by rw [List.getElem?_set_ne hi]; exact h1, h2⟩
theorem zr_H.push {U : State} {ρ : List Nat} {ν : List Int32} {h : List zz_C} {ws : va_W} (hh : zr_H U ρ ν h ws) {q : Nat} {e : va_E} {c : zz_C} (hc : zr_C U (ρ ++ [q]) ν c e) : zr_H U (ρ ++ [q]) ν (h ++ [c]) (ws ++ [(q, e)]) := by
  refine ⟨by rw [List.map_append, hh.1]; rfl, by simp [hh.2.1], fun k c2 hk => ?_⟩
  by_cases hl : k < h.length
  · rw [List.getElem?_append_left hl] at hk
    obtain ⟨q3, e3, h1, h2⟩ := hh.2.2 k c2 hk
    exact ⟨q3, e3, by rw [List.getElem?_append_left (by rw [← hh.2.1]; exact hl)]; exact h1, h2.mono (List.prefix_append _ _) (List.prefix_refl _)⟩
  · have hl2 : k < (h ++ [c]).length := (List.getElem?_eq_some_iff.mp hk).1
    have hl3 : k = h.length := by simp at hl2; omega
    subst hl3
    rw [List.getElem?_append_right (Nat.le_refl _)] at hk
    simp at hk
    subst hk
    exact ⟨q, e, by rw [hh.2.1]; simp, hc⟩
theorem zr_G.grow {g : zz_G} {ν : List Int32} (h : zr_G g ν) {lo hi : Nat} {i : Int32} (h1 : lo ≤ zr_b i) (h2 : zr_b i ≤ hi) : zr_G (g ++ [(lo, hi, 0)]) (ν ++ [i]) := by
  refine ⟨by simp [h.1], fun k lo2 hi2 tag hk => ?_⟩
  by_cases hl : k < g.length
  · rw [List.getElem?_append_left hl] at hk
    obtain ⟨j, e1, e2⟩ := h.2 k lo2 hi2 tag hk
    exact ⟨j, by rw [List.getElem?_append_left (by rw [← h.1]; exact hl)]; exact e1, e2⟩
  · have hl2 : k < (g ++ [(lo, hi, 0)]).length := (List.getElem?_eq_some_iff.mp hk).1
    have hl3 : k = g.length := by simp at hl2; omega
    subst hl3
    rw [List.getElem?_append_right (Nat.le_refl _)] at hk
    simp at hk
    obtain ⟨rfl, rfl, rfl⟩ := hk
    exact ⟨i, by rw [h.1]; simp, h1, h2, fun h => by cases h⟩
theorem zr_G.set {g : zz_G} {ν : List Int32} (h : zr_G g ν) {k lo hi tag lo2 hi2 : Nat} (hk : g[k]? = some (lo, hi, tag)) (hb : ∀ i : Int32, ν[k]? = some i → lo2 ≤ zr_b i ∧ zr_b i ≤ hi2) : zr_G (g.set k (lo2, hi2, tag)) ν := by
  have hl : k < g.length := (List.getElem?_eq_some_iff.mp hk).1
  refine ⟨by simp [h.1], fun j lo3 hi3 tag3 hj => ?_⟩
  by_cases hi : k = j
  · subst hi
    rw [List.getElem?_set_self hl] at hj
    cases hj
    obtain ⟨i, e1, -, -, e4⟩ := h.2 k lo hi tag hk
    exact ⟨i, e1, (hb i e1).1, (hb i e1).2, e4⟩
  · rw [List.getElem?_set_ne hi] at hj
    exact h.2 j lo3 hi3 tag3 hj
theorem zl_b (n : Nat) : zr_b (nI n) = zz_b n := by
  unfold zr_b zz_b nI
  rw [Int32.toInt_ofNat', Int.bmod_def]
  simp only [Int32.size]
  split <;> omega
theorem zl_b_lt (i : Int32) : zr_b i < 4294967296 := by
  have h1 := i.toInt_lt
  have h2 := i.le_toInt
  unfold zr_b
  omega
theorem zl_b_int (i : Int32) : (zr_b i : Int) = i.toInt + 2147483648 := by
  have h1 := i.toInt_lt
  have h2 := i.le_toInt
  unfold zr_b
  omega
theorem zl_b_inj {i j : Int32} (h : zr_b i = zr_b j) : i = j := by
  have h1 := zl_b_int i
  have h2 := zl_b_int j
  exact Int32.toInt_inj.mp (by omega)
theorem zl_b_ltI {i j : Int32} : i < j ↔ zr_b i < zr_b j := by
  have h1 := zl_b_int i
  have h2 := zl_b_int j
  rw [Int32.lt_iff_toInt_lt]
  omega
theorem zl_b_leI {i j : Int32} : i ≤ j ↔ zr_b i ≤ zr_b j := by
  have h1 := zl_b_int i
  have h2 := zl_b_int j
  rw [Int32.le_iff_toInt_le]
  omega
/-- an int by its number plus 2^31 -/
theorem zl_b_back (i : Int32) : i = nI (zz_b (zr_b i)) := by
  apply zl_b_inj
  rw [zl_b]
  have h := zl_b_lt i
  unfold zz_b
  omega
