/-! THE WALKER IS SOUND -/
def zr_evOk (l : Launch) (D : va_G) (d : Nat) (ev : Nat → List zz_V → List zz_C → zz_G → Option (List zz_O)) : Prop := ∀ (mi : Nat) (as : List zz_V) (h : List zz_C) (g : zz_G) (outs : List zz_O), ev mi as h g = some outs → outs ≠ [] ∧ zr_Met l D d mi as h g outs
theorem zl_cat {α : Type} {f : α → Option (List zz_O)} : ∀ {l : List α} {y : List zz_O}, zz_cat f l = some y → (∀ a ∈ l, ∃ x, f a = some x ∧ ∀ o ∈ x, o ∈ y)
  | [], y, h, a, ha => by cases ha
  | b :: l, y, h, a, ha => by
    have h : (match f b with
      | none => none
      | some x => match zz_cat f l with
        | none => none
        | some y => some (x ++ y)) = some y := h
    cases hb : f b with
    | none => rw [hb] at h; cases h
    | some x =>
      rw [hb] at h
      cases hl : zz_cat f l with
      | none => rw [hl] at h; cases h
      | some y2 =>
        rw [hl] at h
        cases h
        rcases List.mem_cons.mp ha with rfl | ha
        · exact ⟨x, hb, fun o ho => List.mem_append_left _ ho⟩
        · obtain ⟨x2, e1, e2⟩ := zl_cat hl a ha
          exact ⟨x2, e1, fun o ho => List.mem_append_right _ (e2 o ho)⟩
theorem zr_OkL.at {M : zr_M} {pcs : List Nat} : ∀ {ops : List zz_Op} {k j : Nat} {op : zz_Op}, zr_OkL M pcs k ops → ops[j]? = some op → zr_Ok M pcs (k + j) op
  | _ :: _, k, 0, _, h, e => by cases e; exact h.1
  | _ :: _, k, j + 1, _, h, e => by
    have := zr_OkL.at h.2 (j := j) e
    rw [show k + (j + 1) = k + 1 + j by omega]
    exact this
def zr_endO (E : zr_E) (o : zz_O) : Prop := zr_end E o.1 ([], [], o.2.1, o.2.2.1, o.2.2.2.1, o.2.2.2.2)
theorem zr_run {M : zr_M} {pcs : List Nat} {code : List zz_Op} {E : zr_E} {d : Nat} {ev : Nat → List zz_V → List zz_C → zz_G → Option (List zz_O)} (hX : zr_X M d E) (hev : zr_evOk (zr_l E) (zr_D E) d ev) (hok : zr_OkL M pcs 0 code) : ∀ (n k : Nat) (st : zz_S) (outs : List zz_O), zz_run ev code n (code.drop k) st = some outs → outs ≠ [] ∧ ((∀ o ∈ outs, zr_endO E o) → zr_go E pcs k st) := by
  intro n
  induction n with
  | zero => intro k st outs h; cases h
  | succ n ih =>
    intro k st outs h
    cases hc : code.drop k with
    | nil => rw [hc] at h; cases h
    | cons op rest =>
      rw [hc] at h
      have hk : code[k]? = some op := by
        have : (code.drop k)[0]? = some op := by rw [hc]; rfl
        rwa [List.getElem?_drop, Nat.add_zero] at this
      have hrest : code.drop (k + 1) = rest := by
        rw [← List.drop_drop, hc]; rfl
      have ho := hok.at hk
      rw [Nat.zero_add] at ho
      have ho := ho E d hX st
      change (match op st with
        | .inl st2 => zz_run ev code n rest st2
        | .inr (.inl (t, st2)) => zz_run ev code n (zz_drop t code) st2
        | .inr (.inr (.inl l)) => List.casesOn l none (fun q t => zz_cat (fun q => zz_run ev code n (zz_drop q.1 code) q.2) (q :: t))
        | .inr (.inr (.inr (.inl (v, (_, _, h, g, c, s))))) => some [(v, h, g, c, s)]
        | .inr (.inr (.inr (.inr (.inl (mi, as, (k, l, h, g, c, s)))))) => (match ev mi as h g with
          | none => none
          | some outs => zz_cat (fun o => zz_run ev code n rest (zz_after (k, l, h, g, c, s) (zz_mc outs) (zz_ms outs) o)) outs)
        | .inr (.inr (.inr (.inr (.inr _)))) => none) = some outs at h
      match hr : op st with
      | .inl st2 =>
        rw [hr] at h ho
        rw [← hrest] at h
        obtain ⟨h1, h2⟩ := ih (k + 1) st2 outs h
        exact ⟨h1, fun he => ho (h2 he)⟩
      | .inr (.inl (t, st2)) =>
        rw [hr] at h ho
        have h : zz_run ev code n (zz_drop t code) st2 = some outs := h
        rw [zl_drop] at h
        obtain ⟨h1, h2⟩ := ih t st2 outs h
        exact ⟨h1, fun he => ho (h2 he)⟩
      | .inr (.inr (.inl [])) =>
        rw [hr] at h
        cases h
      | .inr (.inr (.inl (q :: t))) =>
        rw [hr] at h ho
        have hcat := zl_cat (show zz_cat (fun q => zz_run ev code n (zz_drop q.1 code) q.2) (q :: t) = some outs from h)
        refine ⟨?_, fun he => ho (by simp) (fun a ha => ?_)⟩
        · obtain ⟨x, e1, e2⟩ := hcat q List.mem_cons_self
          rw [zl_drop] at e1
          obtain ⟨h1, -⟩ := ih _ _ _ e1
          obtain ⟨o, ho⟩ := List.exists_mem_of_ne_nil x h1
          exact List.ne_nil_of_mem (e2 o ho)
        · obtain ⟨x, e1, e2⟩ := hcat a ha
          rw [zl_drop] at e1
          exact (ih _ _ _ e1).2 (fun o ho => he o (e2 o ho))
      | .inr (.inr (.inr (.inl (v, (sk, la, hp, g, c, s))))) =>
        rw [hr] at h ho
        have h : some [(v, hp, g, c, s)] = some outs := h
        cases h
        refine ⟨by simp, fun he => ho ?_⟩
        have := he _ List.mem_cons_self
        obtain ⟨p, l, e, R, s, m, args, below, meth, c, D, A, H0, nL, ρ0, ν0, Qc⟩ := E
        exact this
      | .inr (.inr (.inr (.inr (.inl (mi, as, (sk, la, hp, g, c, s)))))) =>
        rw [hr] at h ho
        have h : (match ev mi as hp g with
          | none => none
          | some outs => zz_cat (fun o => zz_run ev code n rest (zz_after (sk, la, hp, g, c, s) (zz_mc outs) (zz_ms outs) o)) outs) = some outs := h
        cases hv : ev mi as hp g with
        | none => rw [hv] at h; cases h
        | some o1 =>
          rw [hv] at h
          have hcat := zl_cat (show zz_cat (fun o => zz_run ev code n rest (zz_after (sk, la, hp, g, c, s) (zz_mc o1) (zz_ms o1) o)) o1 = some outs from h)
          obtain ⟨g1, g2⟩ := hev mi as hp g o1 hv
          refine ⟨?_, fun he => ho o1 g1 g2 (fun a ha => ?_)⟩
          · obtain ⟨a, ha⟩ := List.exists_mem_of_ne_nil o1 g1
            obtain ⟨x, e1, e2⟩ := hcat a ha
            rw [← hrest] at e1
            obtain ⟨h1, -⟩ := ih _ _ _ e1
            obtain ⟨o, ho⟩ := List.exists_mem_of_ne_nil x h1
            exact List.ne_nil_of_mem (e2 o ho)
          · obtain ⟨x, e1, e2⟩ := hcat a ha
            rw [← hrest] at e1
            exact (ih _ _ _ e1).2 (fun o ho => he o (e2 o ho))
      | .inr (.inr (.inr (.inr (.inr _)))) =>
        rw [hr] at h
        cases h
theorem zl_run_ne {code : List zz_Op} {ev : Nat → List zz_V → List zz_C → zz_G → Option (List zz_O)} (hev : ∀ (mi : Nat) (as : List zz_V) (h : List zz_C) (g : zz_G) (outs : List zz_O), ev mi as h g = some outs → outs ≠ []) : ∀ (n : Nat) (ops : List zz_Op) (st : zz_S) (outs : List zz_O), zz_run ev code n ops st = some outs → outs ≠ [] := by
  intro n
  induction n with
  | zero => intro ops st outs h; cases h
  | succ n ih =>
    intro ops st outs h
    cases ops with
    | nil => cases h
    | cons op rest =>
      change (match op st with
        | .inl st2 => zz_run ev code n rest st2
        | .inr (.inl (t, st2)) => zz_run ev code n (zz_drop t code) st2
        | .inr (.inr (.inl l)) => List.casesOn l none (fun q t => zz_cat (fun q => zz_run ev code n (zz_drop q.1 code) q.2) (q :: t))
        | .inr (.inr (.inr (.inl (v, (_, _, h, g, c, s))))) => some [(v, h, g, c, s)]
        | .inr (.inr (.inr (.inr (.inl (mi, as, (k, l, h, g, c, s)))))) => (match ev mi as h g with
          | none => none
          | some outs => zz_cat (fun o => zz_run ev code n rest (zz_after (k, l, h, g, c, s) (zz_mc outs) (zz_ms outs) o)) outs)
        | .inr (.inr (.inr (.inr (.inr _)))) => none) = some outs at h
      match hr : op st with
      | .inl st2 =>
        rw [hr] at h
        exact ih _ _ _ h
      | .inr (.inl (t, st2)) =>
        rw [hr] at h
        exact ih _ _ _ h
      | .inr (.inr (.inl [])) =>
        rw [hr] at h
        cases h
      | .inr (.inr (.inl (q :: t))) =>
        rw [hr] at h
        obtain ⟨x, e1, e2⟩ := zl_cat (show zz_cat (fun q => zz_run ev code n (zz_drop q.1 code) q.2) (q :: t) = some outs from h) q List.mem_cons_self
        obtain ⟨o, ho⟩ := List.exists_mem_of_ne_nil x (ih _ _ _ e1)
        exact List.ne_nil_of_mem (e2 o ho)
      | .inr (.inr (.inr (.inl (v, (sk, la, hp, g, c, s))))) =>
        rw [hr] at h
        have h : some [(v, hp, g, c, s)] = some outs := h
        cases h
        simp
      | .inr (.inr (.inr (.inr (.inl (mi, as, (sk, la, hp, g, c, s)))))) =>
        rw [hr] at h
        have h : (match ev mi as hp g with
          | none => none
          | some outs => zz_cat (fun o => zz_run ev code n rest (zz_after (sk, la, hp, g, c, s) (zz_mc outs) (zz_ms outs) o)) outs) = some outs := h
        cases hv : ev mi as hp g with
        | none => rw [hv] at h; cases h
        | some o1 =>
          rw [hv] at h
          obtain ⟨a, ha⟩ := List.exists_mem_of_ne_nil o1 (hev mi as hp g o1 hv)
          obtain ⟨x, e1, e2⟩ := zl_cat (show zz_cat (fun o => zz_run ev code n rest (zz_after (sk, la, hp, g, c, s) (zz_mc o1) (zz_ms o1) o)) o1 = some outs from h) a ha
          obtain ⟨o, ho⟩ := List.exists_mem_of_ne_nil x (ih _ _ _ e1)
          exact List.ne_nil_of_mem (e2 o ho)
      | .inr (.inr (.inr (.inr (.inr _)))) =>
        rw [hr] at h
        cases h
-- a method's entry
theorem zl_locs {ρ : List Nat} {ν : List Int32} : ∀ {as : List zz_V} {vs : List Value} {i k : Nat} {a : zz_V}, zr_Vs ρ ν as vs → (zz_locs as)[k]? = some (some a) → ∃ v, zr_V ρ ν a v ∧ (i + k, v) ∈ lv_args i vs
  | [], [], i, k, a, _, hk => by
    have hk : ([] : List (Option zz_V))[k]? = some (some a) := hk
    simp at hk
  | b :: as, v :: vs, i, k, a, h, hk => by
    have hk : (bif zz_isJ b then some b :: none :: zz_locs as else some b :: zz_locs as)[k]? = some (some a) := hk
    cases hj : zz_isJ b with
    | true =>
      rw [hj] at hk
      obtain ⟨x, rfl⟩ := zl_J hj h.1
      match k, hk with
      | 0, hk =>
        have hk : some (some b) = some (some a) := hk
        cases hk
        exact ⟨_, h.1, List.mem_cons_self⟩
      | 1, hk =>
        have hk : some none = some (some a) := hk
        cases hk
      | k + 2, hk =>
        have hk : (zz_locs as)[k]? = some (some a) := hk
        obtain ⟨w, e1, e2⟩ := zl_locs (i := i + 2) h.2 hk
        refine ⟨w, e1, List.mem_cons_of_mem _ ?_⟩
        rw [show i + (k + 2) = i + 2 + k by omega]
        exact e2
    | false =>
      rw [hj] at hk
      have hcat := zl_cat1 hj h.1
      match k, hk with
      | 0, hk =>
        have hk : some (some b) = some (some a) := hk
        cases hk
        exact ⟨_, h.1, List.mem_cons_self⟩
      | k + 1, hk =>
        have hk : (zz_locs as)[k]? = some (some a) := hk
        obtain ⟨w, e1, e2⟩ := zl_locs (i := i + 1) h.2 hk
        refine ⟨w, e1, List.mem_cons_of_mem _ ?_⟩
        rw [show i + (k + 1) = i + 1 + k by omega, if_neg (by omega)]
        exact e2
theorem zl_pad : ∀ {n : Nat} {l : List (Option zz_V)} {k : Nat} {a : zz_V}, (zz_pad n l)[k]? = some (some a) → l[k]? = some (some a)
  | 0, l, k, a, h => by
    have h : ([] : List (Option zz_V))[k]? = some (some a) := h
    simp at h
  | n + 1, [], 0, a, h => by
    have h : some none = some (some a) := h
    cases h
  | n + 1, [], k + 1, a, h => by
    have h : (zz_pad n [])[k]? = some (some a) := h
    have := zl_pad h
    simp at this
  | n + 1, x :: l, 0, a, h => h
  | n + 1, x :: l, k + 1, a, h => by
    have h : (zz_pad n l)[k]? = some (some a) := h
    show l[k]? = some (some a)
    exact zl_pad h
theorem zl_sl {ρ : List Nat} {ν : List Int32} : ∀ {as : List zz_V} {vs : List Value}, zr_Vs ρ ν as vs → (lg_sl vs).length = zz_wt as
  | [], [], _ => rfl
  | a :: as, v :: vs, h => by
    have ih := zl_sl h.2
    have e : lg_sl (v :: vs) = (if v.category = 2 then [.val v, .second] else [.val v]) ++ lg_sl vs := by
      unfold lg_sl
      rw [List.flatMap_cons]
    have e2 : zz_wt (a :: as) = (bif zz_isJ a then 2 else 1) + zz_wt as := rfl
    rw [e, e2, List.length_append, ih]
    cases hj : zz_isJ a with
    | true =>
      obtain ⟨x, rfl⟩ := zl_J hj h.1
      rfl
    | false =>
      rw [if_neg (by rw [zl_cat1 hj h.1]; decide)]
      rfl
/-- a method that the table has right: its contract out of its run -/
theorem zr_met {l : Launch} {D : va_G} {d mi nL N : Nat} {y : MethodName} {cc : ByteArray} {ret : Option FieldType} {code : List zz_Op} {pcs : List Nat} {as : List zz_V} {h : List zz_C} {g : zz_G} {outs : List zz_O} {ev : Nat → List zz_V → List zz_C → zz_G → Option (List zz_O)} (hev : zr_evOk l D d ev) (hm : zm_all mi = (code, nL, y, cc, ret, pcs)) (hok : zr_OkL (y.cls, cc, nL, ret, y.name) pcs 0 code) (hpc : pcs.getD 0 0 = 0) (hpl : plainName y.cls = true) (hwt : zz_wt as ≤ nL) (hrun : zz_run ev code N code ([], zz_pad nL (zz_locs as), h, g, 0, 0) = some outs) : outs ≠ [] ∧ zr_Met l D (d + 1) mi as h g outs := by
  refine ⟨?_, d + 1, Nat.le_refl _, fun ρ ν ws vs sz mc ms hVs hG hb => ?_⟩
  · exact zl_run_ne (fun mi as h g outs h2 => (hev mi as h g outs h2).1) N code _ outs hrun
  · unfold zm_y zm_ws
    rw [hm]
    refine Met.ofW (cc := cc) (maxL := nL) (ret := ret) hpl rfl ?_
    intro p e s m args below meth c s₁ B hml hv
    obtain ⟨rfl, hsz, hP, hK, hD0, hH, hEx⟩ := hv
    have hts := atoms_spec (ws := Cond.code y cc nL ret :: zg_tbl) B.pre
    have hA : ∀ q : Nat, s.heap.size ≤ q → va_A ws sz q := fun q hq => Or.inr (by rw [← hsz]; exact hq)
    have hX : zr_X (y.cls, cc, nL, ret, y.name) d (p, l, e, zr_rm (d + 1) mc ms, s, m, vs.toArray, below, meth, c, D, va_A ws sz, s.heap, nL, ρ, ν, zr_Q D ρ ν ws sz outs) := ⟨B.exec, B.bytes, hml, findClass_of_methodNamed B.named, fun w hw => hts w (List.mem_cons_of_mem _ hw), hK, B.notSynchronized, B.returns, (name_of_methodNamed B.named B.method).1, rfl, hA, rfl, rfl, hEx⟩
    have hgo := (zr_run hX hev hok N 0 _ outs hrun).2 (fun o ho => ⟨(hb o ho).1, (hb o ho).2, fun ρ2 ν2 ws2 H locs rv h1 h2 h3 h4 h5 h6 h7 h8 t ht hW => ⟨⟨o, ho, ρ2, ν2, ws2, rv, rfl, h1, h2, h3, h4.moved hW.alike, h5, by rw [ht]; exact h6, h7⟩, h8.F ht⟩⟩)
    have hle := lv_entry vs (n := nL) (by rw [zl_sl hVs]; exact hwt)
    rw [lg_entry_eq]
    generalize (lg_sl vs ++ List.replicate (nL - (lg_sl vs).length) Slot.unset).toArray = ls at hle ⊢
    have hL : zr_L ρ ν (zz_pad nL (zz_locs as)) ls nL := by
      refine ⟨hle.1, hle.2.1, fun k a hk => ?_⟩
      obtain ⟨v, e1, e2⟩ := zl_locs (i := 0) hVs (zl_pad hk)
      rw [Nat.zero_add] at e2
      exact ⟨v, e1, hle.2.2 (k, v) e2⟩
    have hW := hgo.2.2 ρ ν ws s.heap [] ls [] ⟨⟨List.prefix_refl _, List.prefix_refl _⟩, hG, hH, hL, trivial, hP, hD0.self, va_S.rf⟩
    rw [hpc] at hW
    exact hW
/-- a row of the table is right: it is empty, or its operations keep what they must -/
def zr_row1 (q : List zz_Op × Nat × MethodName × ByteArray × Option FieldType × List Nat) : Prop := q.1 = [] ∨ (zr_OkL (q.2.2.1.cls, q.2.2.2.1, q.2.1, q.2.2.2.2.1, q.2.2.1.name) q.2.2.2.2.2 0 q.1 ∧ q.2.2.2.2.2.getD 0 0 = 0 ∧ plainName q.2.2.1.cls = true)
def zr_tab : Prop := ∀ mi : Nat, zr_row1 (zm_all mi)
def zr_smOk (l : Launch) (D : va_G) (sm : Nat → Nat → List zz_V → List zz_C → zz_G → Option (List zz_O)) : Prop := ∀ (d mi : Nat) (as : List zz_V) (h : List zz_C) (g : zz_G) (outs : List zz_O), sm d mi as h g = some outs → outs ≠ [] ∧ zr_Met l D (d + 1) mi as h g outs
theorem zr_sound {l : Launch} {D : va_G} {sm : Nat → Nat → List zz_V → List zz_C → zz_G → Option (List zz_O)} (ht : zr_tab) (hs : zr_smOk l D sm) : ∀ d : Nat, zr_evOk l D d (zz_eval sm zz_mt d) := by
  intro d
  induction d with
  | zero => intro mi as h g outs h2; cases h2
  | succ d ih =>
    intro mi as h g outs h2
    change (match sm d mi as h g with
      | some o => some o
      | none => match zz_mt mi with
        | (code, nL) => bif Nat.ble (zz_wt as) nL then zz_run (zz_eval sm zz_mt d) code 100000 code ([], zz_pad nL (zz_locs as), h, g, 0, 0) else none) = some outs at h2
    cases hsm : sm d mi as h g with
    | some o =>
      rw [hsm] at h2
      cases h2
      exact hs d mi as h g _ hsm
    | none =>
      rw [hsm] at h2
      have hr := ht mi
      unfold zz_mt at h2
      cases hq : zm_all mi with
      | mk code q =>
      obtain ⟨nL, y, cc, ret, pcs⟩ := q
      rw [hq] at h2 hr
      have h2 : (bif Nat.ble (zz_wt as) nL then zz_run (zz_eval sm zz_mt d) code 100000 code ([], zz_pad nL (zz_locs as), h, g, 0, 0) else none) = some outs := h2
      cases hw : Nat.ble (zz_wt as) nL with
      | false => rw [hw] at h2; cases h2
      | true =>
        rw [hw] at h2
        have h2 : zz_run (zz_eval sm zz_mt d) code 100000 code ([], zz_pad nL (zz_locs as), h, g, 0, 0) = some outs := h2
        rcases hr with hr | ⟨h3, h4, h5⟩
        · have hr : code = [] := hr
          subst hr
          cases h2
        · exact zr_met ih hq h3 h4 h5 (Nat.le_of_ble_eq_true hw) h2
