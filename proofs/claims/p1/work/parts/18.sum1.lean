/-! SUMMARIES: calls without unknowns are run once -/
def zz_shut (v : zz_V) : Bool := match v with
  | .inr (.inr (.inr _)) => false
  | _ => true
noncomputable def zz_shutC (c : zz_C) : Bool := match c with
  | .inl (_, fs) => zz_all zz_shut fs
  | .inr _ => true
theorem zr_V.shut {ρ : List Nat} {ν ν2 : List Int32} {a : zz_V} {v : Value} (hs : zz_shut a = true) (h : zr_V ρ ν a v) : zr_V ρ ν2 a v := by
  match a, hs, h with
  | .inl _, _, h => exact h
  | .inr (.inl 0), _, h => exact h
  | .inr (.inl (_ + 1)), _, h => exact h
  | .inr (.inr (.inl _)), _, h => exact h
  | .inr (.inr (.inr _)), hs, _ => cases hs
theorem zr_Vs.shut {ρ : List Nat} {ν ν2 : List Int32} : ∀ {as : List zz_V} {vs : List Value}, (∀ a ∈ as, zz_shut a = true) → zr_Vs ρ ν as vs → zr_Vs ρ ν2 as vs
  | [], [], _, _ => trivial
  | _ :: _, _ :: _, hs, h => ⟨h.1.shut (hs _ List.mem_cons_self), zr_Vs.shut (fun a ha => hs a (List.mem_cons_of_mem _ ha)) h.2⟩
theorem zr_C.shut {U : State} {ρ : List Nat} {ν ν2 : List Int32} {c : zz_C} {e : va_E} (hs : zz_shutC c = true) (h : zr_C U ρ ν c e) : zr_C U ρ ν2 c e := by
  match c, e, hs, h with
  | .inl (ci, fs), .inr (ci2, vs), hs, h => exact ⟨h.1, h.2.shut (zL_all hs)⟩
  | .inr (kd, n, d, p), .inl (cA, x), _, h => exact h
theorem zr_H.shut {U : State} {ρ : List Nat} {ν ν2 : List Int32} {h : List zz_C} {ws : va_W} (hs : ∀ c ∈ h, zz_shutC c = true) (hh : zr_H U ρ ν h ws) : zr_H U ρ ν2 h ws :=
  ⟨hh.1, hh.2.1, fun k c hk => by obtain ⟨q, e, h1, h2⟩ := hh.2.2 k c hk; exact ⟨q, e, h1, h2.shut (hs c (List.mem_of_getElem? hk))⟩⟩
def zz_reG (g : zz_G) (o : zz_O) : zz_O := (o.1, o.2.1, g, o.2.2.2)
noncomputable def zz_shutO (o : zz_O) : Bool := (match o.1 with
  | some v => zz_shut v
  | none => true) && zz_all zz_shutC o.2.1
theorem zS_met {l : Launch} {D : va_G} {d d1 mi : Nat} {as : List zz_V} {h : List zz_C} {outs : List zz_O} (ha : ∀ a ∈ as, zz_shut a = true) (hh : ∀ c ∈ h, zz_shutC c = true) (ho : ∀ o ∈ outs, zz_shutO o = true) (hM : zr_Met l D d mi as h [] outs) (hd : d ≤ d1) (g : zz_G) : zr_Met l D d1 mi as h g (outs.map (zz_reG g)) := by
  obtain ⟨d2, hd2, hM⟩ := hM
  refine ⟨d2, Nat.le_trans hd2 hd, fun ρ ν ws vs sz mc ms hVs hG hb => ?_⟩
  have hM := hM ρ [] ws vs sz mc ms (hVs.shut ha) ⟨rfl, fun k lo hi tag h => by simp at h⟩ (fun o ho => hb (zz_reG g o) (List.mem_map.mpr ⟨o, ho, rfl⟩))
  intro p e a1 a2 a3 s m args below hf happ hP hK
  obtain ⟨n, o, h1, h2, h3, ⟨⟨o1, ho1, ρ2, ν2, ws2, rv, q1, q2, q3, q4, q5, q6, q7, q8⟩, hF⟩, hL⟩ := hM p e a1 a2 a3 s m args below hf happ ⟨hP.1, hP.2.1, hP.2.2.1, hP.2.2.2.1, hP.2.2.2.2.1, hP.2.2.2.2.2.1.shut hh, hP.2.2.2.2.2.2⟩ hK
  have hs := ho o1 ho1
  unfold zz_shutO at hs
  rw [Bool.and_eq_true] at hs
  refine ⟨n, o, h1, h2, h3, ⟨⟨zz_reG g o1, List.mem_map.mpr ⟨o1, ho1, rfl⟩, ρ2, ν, ws2, rv, q1, q2, List.prefix_refl _, hG, q5.shut (zL_all hs.2), ?_, q7, q8⟩, hF⟩, hL⟩
  obtain ⟨v1, rest⟩ := o1
  match v1, rv, hs.1, q6 with
  | none, none, _, _ => exact trivial
  | some a, some x, hs1, q6 => exact zr_V.shut (ν := ν2) hs1 q6
/-- an unknown that is known -/
noncomputable def zz_norm (g : zz_G) (v : zz_V) : zz_V := match v with
  | .inr (.inr (.inr i)) => (match zz_nth g i with
    | some (lo, hi, _) => bif Nat.beq lo hi then .inl (zz_b lo) else .inr (.inr (.inr i))
    | none => .inr (.inr (.inr i)))
  | v => v
theorem zr_norm {g : zz_G} {ρ : List Nat} {ν : List Int32} {v : zz_V} {x : Value} (hG : zr_G g ν) (h : zr_V ρ ν v x) : zr_V ρ ν (zz_norm g v) x := by
  match v, h with
  | .inl _, h => exact h
  | .inr (.inl _), h => exact h
  | .inr (.inr (.inl _)), h => exact h
  | .inr (.inr (.inr i)), h =>
    show zr_V ρ ν (match zz_nth g i with
      | some (lo, hi, _) => bif Nat.beq lo hi then .inl (zz_b lo) else .inr (.inr (.inr i))
      | none => .inr (.inr (.inr i))) x
    rw [zl_nth]
    match hg : g[i]? with
    | none => exact h
    | some (lo, hi, tag) =>
      show zr_V ρ ν (bif Nat.beq lo hi then .inl (zz_b lo) else .inr (.inr (.inr i))) x
      cases hb : Nat.beq lo hi with
      | false => exact h
      | true =>
        have he := Nat.eq_of_beq_eq_true hb
        subst he
        exact zl_one hG hg h
theorem zr_norms {g : zz_G} {ρ : List Nat} {ν : List Int32} (hG : zr_G g ν) : ∀ {as : List zz_V} {vs : List Value}, zr_Vs ρ ν as vs → zr_Vs ρ ν (as.map (zz_norm g)) vs
  | [], [], _ => trivial
  | _ :: _, _ :: _, h => ⟨zr_norm hG h.1, zr_norms hG h.2⟩
theorem zS_norm {l : Launch} {D : va_G} {d mi : Nat} {as : List zz_V} {h : List zz_C} {g : zz_G} {outs : List zz_O} (hM : zr_Met l D d mi (as.map (zz_norm g)) h g outs) : zr_Met l D d mi as h g outs := by
  obtain ⟨d2, hd2, hM⟩ := hM
  exact ⟨d2, hd2, fun ρ ν ws vs sz mc ms hVs hG hb => hM ρ ν ws vs sz mc ms (zr_norms hG hVs) hG hb⟩
def zz_eqV (a b : zz_V) : Bool := match a, b with
  | .inl x, .inl y => Nat.beq x y
  | .inr (.inl x), .inr (.inl y) => Nat.beq x y
  | .inr (.inr (.inl x)), .inr (.inr (.inl y)) => Nat.beq x y
  | .inr (.inr (.inr x)), .inr (.inr (.inr y)) => Nat.beq x y
  | _, _ => false
noncomputable def zz_eqL {α : Type} (f : α → α → Bool) (l1 l2 : List α) : Bool := List.rec (motive := fun _ => List α → Bool) (fun l2 => List.casesOn l2 true (fun _ _ => false)) (fun a _ ih l2 => List.casesOn l2 false (fun b t => bif f a b then ih t else false)) l1 l2
noncomputable def zz_eqC (a b : zz_C) : Bool := match a, b with
  | .inl (c, fs), .inl (d, gs) => bif Nat.beq c d then zz_eqL zz_eqV fs gs else false
  | .inr (k, n, d, p), .inr (k2, n2, d2, p2) => Nat.beq k k2 && (Nat.beq n n2 && (Nat.beq d d2 && Nat.beq p p2))
  | _, _ => false
theorem zS_eqV {a b : zz_V} (h : zz_eqV a b = true) : a = b := by
  unfold zz_eqV at h
  split at h
  · rw [Nat.eq_of_beq_eq_true h]
  · rw [Nat.eq_of_beq_eq_true h]
  · rw [Nat.eq_of_beq_eq_true h]
  · rw [Nat.eq_of_beq_eq_true h]
  · cases h
theorem zS_eqL {α : Type} {f : α → α → Bool} (hf : ∀ a b : α, f a b = true → a = b) : ∀ {l1 l2 : List α}, zz_eqL f l1 l2 = true → l1 = l2
  | [], [], _ => rfl
  | [], _ :: _, h => nomatch (show false = true from h)
  | _ :: _, [], h => nomatch (show false = true from h)
  | a :: t, b :: u, h => by
    have h : (bif f a b then zz_eqL f t u else false) = true := h
    cases hx : f a b with
    | false => rw [hx] at h; cases h
    | true =>
      rw [hx] at h
      have h : zz_eqL f t u = true := h
      rw [hf a b hx, zS_eqL hf h]
theorem zS_eqC {a b : zz_C} (h : zz_eqC a b = true) : a = b := by
  unfold zz_eqC at h
  split at h
  · rename_i c fs d gs
    cases hx : Nat.beq c d with
    | false => rw [hx] at h; cases h
    | true =>
      rw [hx] at h
      have h : zz_eqL zz_eqV fs gs = true := h
      rw [Nat.eq_of_beq_eq_true hx, zS_eqL (fun _ _ => zS_eqV) h]
  · simp only [Bool.and_eq_true] at h
    obtain ⟨h1, h2, h3, h4⟩ := h
    rw [Nat.eq_of_beq_eq_true h1, Nat.eq_of_beq_eq_true h2, Nat.eq_of_beq_eq_true h3, Nat.eq_of_beq_eq_true h4]
  · cases h
/-- a summary: method, arguments, heap, outcomes -/
abbrev zz_Sum : Type := Nat × List zz_V × List zz_C × List zz_O
noncomputable def zz_find (tab : List zz_Sum) (mi : Nat) (as : List zz_V) (h : List zz_C) : Option (List zz_O) := List.rec (motive := fun _ => Option (List zz_O)) none (fun q _ ih => bif Nat.beq q.1 mi && (zz_eqL zz_eqV q.2.1 as && zz_eqL zz_eqC q.2.2.1 h) then some q.2.2.2 else ih) tab
theorem zS_find {mi : Nat} {as : List zz_V} {h : List zz_C} {outs : List zz_O} : ∀ {tab : List zz_Sum}, zz_find tab mi as h = some outs → (mi, as, h, outs) ∈ tab
  | [], hf => nomatch (show (none : Option (List zz_O)) = some outs from hf)
  | (m2, as2, h2, o2) :: tab, hf => by
    have hf : (bif Nat.beq m2 mi && (zz_eqL zz_eqV as2 as && zz_eqL zz_eqC h2 h) then some o2 else zz_find tab mi as h) = some outs := hf
    cases hx : Nat.beq m2 mi && (zz_eqL zz_eqV as2 as && zz_eqL zz_eqC h2 h) with
    | false =>
      rw [hx] at hf
      exact List.mem_cons_of_mem _ (zS_find hf)
    | true =>
      rw [hx] at hf
      have hf : some o2 = some outs := hf
      cases hf
      simp only [Bool.and_eq_true] at hx
      obtain ⟨e1, e2, e3⟩ := hx
      have e1 := Nat.eq_of_beq_eq_true e1
      have e2 := zS_eqL (fun _ _ => zS_eqV) e2
      have e3 := zS_eqL (fun _ _ => zS_eqC) e3
      subst e1 e2 e3
      exact List.mem_cons_self
/-- a summary that holds -/
def zz_sumOk (q : zz_Sum) : Prop := zz_eval zz_sm0 zz_mt 6 q.1 q.2.1 q.2.2.1 [] = some q.2.2.2 ∧ (zz_all zz_shut q.2.1 && (zz_all zz_shutC q.2.2.1 && zz_all zz_shutO q.2.2.2)) = true
noncomputable def zz_smT (tab : List zz_Sum) : Nat → Nat → List zz_V → List zz_C → zz_G → Option (List zz_O) := fun d mi as h g => bif (Nat.beq mi 14 || Nat.beq mi 133) && Nat.ble 5 d then (match zz_find tab mi (as.map (zz_norm g)) h with
  | some outs => some (outs.map (zz_reG g))
  | none => none) else none
theorem zz_smT_ok (l : Launch) (D : va_G) {tab : List zz_Sum} (ht : ∀ q ∈ tab, zz_sumOk q) : zr_smOk l D (zz_smT tab) := by
  intro d mi as h g outs h2
  unfold zz_smT at h2
  cases hc : (Nat.beq mi 14 || Nat.beq mi 133) && Nat.ble 5 d with
  | false => rw [hc] at h2; cases h2
  | true =>
  rw [hc] at h2
  have h2 : (match zz_find tab mi (as.map (zz_norm g)) h with
    | some outs => some (outs.map (zz_reG g))
    | none => none) = some outs := h2
  rw [Bool.and_eq_true] at hc
  have hd := Nat.le_of_ble_eq_true hc.2
  cases hf : zz_find tab mi (as.map (zz_norm g)) h with
  | none => rw [hf] at h2; cases h2
  | some o2 =>
    rw [hf] at h2
    have h2 : some (o2.map (zz_reG g)) = some outs := h2
    cases h2
    obtain ⟨k1, k2⟩ := ht _ (zS_find hf)
    have k1 : zz_eval zz_sm0 zz_mt 6 mi (as.map (zz_norm g)) h [] = some o2 := k1
    have k2 : (zz_all zz_shut (as.map (zz_norm g)) && (zz_all zz_shutC h && zz_all zz_shutO o2)) = true := k2
    simp only [Bool.and_eq_true] at k2
    obtain ⟨n1, n2⟩ := zr_sound zr_tab_ok (zz_sm0_ok l D) 6 mi _ h [] o2 k1
    refine ⟨fun h0 => n1 (List.map_eq_nil_iff.mp h0), zS_norm (zS_met (zL_all k2.1) (zL_all k2.2.1) (zL_all k2.2.2) n2 (by omega) g)⟩
noncomputable def zz_smB (tab : List zz_Sum) : Nat → Nat → List zz_V → List zz_C → zz_G → Option (List zz_O) := fun d mi as h g => match zz_smT tab d mi as h g with
  | some o => some o
  | none => zz_smE d mi as h g
theorem zz_smB_ok (l : Launch) (D : va_G) {tab : List zz_Sum} (ht : ∀ q ∈ tab, zz_sumOk q) : zr_smOk l D (zz_smB tab) := by
  intro d mi as h g outs h2
  unfold zz_smB at h2
  cases hs : zz_smT tab d mi as h g with
  | some o =>
    rw [hs] at h2
    have h2 : some o = some outs := h2
    cases h2
    exact zz_smT_ok l D ht d mi as h g _ hs
  | none =>
    rw [hs] at h2
    exact zz_smE_ok l D d mi as h g outs h2
noncomputable def zz_eqO (a b : zz_O) : Bool := (match a.1, b.1 with
  | some v, some w => zz_eqV v w
  | none, none => true
  | _, _ => false) && (zz_eqL zz_eqC a.2.1 b.2.1 && (zz_eqL (fun (p q : Nat × Nat × Nat) => Nat.beq p.1 q.1 && (Nat.beq p.2.1 q.2.1 && Nat.beq p.2.2 q.2.2)) a.2.2.1 b.2.2.1 && (Nat.beq a.2.2.2.1 b.2.2.2.1 && Nat.beq a.2.2.2.2 b.2.2.2.2)))
theorem zS_eqO {a b : zz_O} (h : zz_eqO a b = true) : a = b := by
  obtain ⟨v, h1, g, c, s⟩ := a
  obtain ⟨v2, h2, g2, c2, s2⟩ := b
  unfold zz_eqO at h
  simp only [Bool.and_eq_true] at h
  obtain ⟨e1, e2, e3, e4, e5⟩ := h
  have e2 := zS_eqL (fun _ _ => zS_eqC) e2
  have e3 : g = g2 := zS_eqL (fun p q hpq => by
    obtain ⟨p1, p2, p3⟩ := p
    obtain ⟨q1, q2, q3⟩ := q
    simp only [Bool.and_eq_true] at hpq
    rw [Nat.eq_of_beq_eq_true hpq.1, Nat.eq_of_beq_eq_true hpq.2.1, Nat.eq_of_beq_eq_true hpq.2.2]) e3
  have e4 := Nat.eq_of_beq_eq_true e4
  have e5 := Nat.eq_of_beq_eq_true e5
  have e0 : v = v2 := by
    match v, v2, e1 with
    | some v, some w, e1 => rw [zS_eqV e1]
    | none, none, _ => rfl
  subst e0 e2 e3 e4 e5
  rfl
noncomputable def zz_is (r : Option (List zz_O)) (outs : List zz_O) : Bool := match r with
  | some l => zz_eqL zz_eqO l outs
  | none => false
theorem zS_is {r : Option (List zz_O)} {outs : List zz_O} (h : zz_is r outs = true) : r = some outs := by
  match r, h with
  | some l, h => rw [zS_eqL (fun _ _ => zS_eqO) h]
  | none, h => cases h
