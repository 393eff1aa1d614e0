/-! WHAT AN OPERATION MUST KEEP: if the machine comes to its end from what the operation makes of a state, it does so from the state -/
noncomputable def zm_y (mi : Nat) : MethodName := (zm_all mi).2.2.1
noncomputable def zm_ws (mi : Nat) : List Cond := Cond.code (zm_all mi).2.2.1 (zm_all mi).2.2.2.1 (zm_all mi).2.1 (zm_all mi).2.2.2.2.1 :: zg_tbl
def zr_Pc (D : va_G) (ρ : List Nat) (ν : List Int32) (ws : va_W) (sz : Nat) (h : List zz_C) (U : State) : Prop := U.heap.size = sz ∧ va_P D zz_cl ws U.heap ∧ va_K D zz_cl [] U ∧ va_D (fun _ => True) ws ∧ zr_H U ρ ν h ws ∧ zr_Ex U
def zr_Q (D : va_G) (ρ : List Nat) (ν : List Int32) (ws : va_W) (sz : Nat) (outs : List zz_O) : Array Value → State → Outcome → State → Prop := fun _ st oc t => (∃ o ∈ outs, ∃ (ρ2 : List Nat) (ν2 : List Int32) (ws2 : va_W) (rv : Option Value), oc = .returned rv ∧ ρ <+: ρ2 ∧ ν <+: ν2 ∧ zr_G o.2.2.1 ν2 ∧ zr_H t ρ2 ν2 o.2.1 ws2 ∧ zr_Vo ρ2 ν2 o.1 rv ∧ va_P D zz_cl ws2 t.heap ∧ va_D (va_A ws sz) ws2) ∧ va_F (va_A ws sz) st t
/-- a method's contract, from an abstract state -/
def zr_Met (l : Launch) (D : va_G) (d mi : Nat) (as : List zz_V) (h : List zz_C) (g : zz_G) (outs : List zz_O) : Prop := ∃ d2 : Nat, d2 ≤ d ∧ ∀ (ρ : List Nat) (ν : List Int32) (ws : va_W) (vs : List Value) (sz mc ms : Nat), zr_Vs ρ ν as vs → zr_G g ν → (∀ o ∈ outs, o.2.2.2.1 ≤ mc ∧ o.2.2.2.2 ≤ ms) → Met l (zm_y mi) (zm_ws mi) (zr_rm d2 mc ms) (va_Pc vs (zr_Pc D ρ ν ws sz h)) (zr_Q D ρ ν ws sz outs) mc ms (va_A ws sz)
def zr_go (E : zr_E) (pcs : List Nat) (k : Nat) (st : zz_S) : Prop := zr_W E (pcs.getD k 0) st
def zr_l (E : zr_E) : Launch := E.2.1
def zr_D (E : zr_E) : va_G := match E with
  | (_, _, _, _, _, _, _, _, _, _, D, _) => D
def zr_res (E : zr_E) (d : Nat) (pcs : List Nat) (k : Nat) (st : zz_S) (r : zz_R) : Prop := match r with
  | .inl st2 => zr_go E pcs (k + 1) st2 → zr_go E pcs k st
  | .inr (.inl (t, st2)) => zr_go E pcs t st2 → zr_go E pcs k st
  | .inr (.inr (.inl l)) => l ≠ [] → (∀ q ∈ l, zr_go E pcs q.1 q.2) → zr_go E pcs k st
  | .inr (.inr (.inr (.inl (v, st2)))) => zr_end E v st2 → zr_go E pcs k st
  | .inr (.inr (.inr (.inr (.inl (mi, as, st2))))) => ∀ outs : List zz_O, outs ≠ [] → zr_Met (zr_l E) (zr_D E) d mi as st2.2.2.1 st2.2.2.2.1 outs → (∀ o ∈ outs, zr_go E pcs (k + 1) (zz_after st2 (zz_mc outs) (zz_ms outs) o)) → zr_go E pcs k st
  | .inr (.inr (.inr (.inr (.inr _)))) => True
def zr_Ok (M : zr_M) (pcs : List Nat) (k : Nat) (op : zz_Op) : Prop := ∀ (E : zr_E) (d : Nat), zr_X M d E → ∀ st : zz_S, zr_res E d pcs k st (op st)
def zr_OkL (M : zr_M) (pcs : List Nat) : Nat → List zz_Op → Prop
  | _, [] => True
  | k, op :: t => zr_Ok M pcs k op ∧ zr_OkL M pcs (k + 1) t
theorem zr_fail {E : zr_E} {d : Nat} {pcs : List Nat} {k : Nat} {st : zz_S} : zr_res E d pcs k st zz_fail := trivial
theorem zo_no {M : zr_M} {pcs : List Nat} {k : Nat} : zr_Ok M pcs k zz_no := fun _ _ _ _ => trivial
/-- fewer cases of the unknowns, that together are all -/
theorem zr_W.split {E : zr_E} {pc : Nat} {st : zz_S} {gs : List zz_G} (hne : gs ≠ []) (hall : ∀ ν : List Int32, zr_G st.2.2.2.1 ν → ∃ g ∈ gs, zr_G g ν) (h : ∀ g ∈ gs, zr_W E pc (zz_withG st g)) : zr_W E pc st := by
  obtain ⟨p, l, e, R, s, m, args, below, meth, c, D, A, H0, nL, ρ0, ν0, Qc⟩ := E
  obtain ⟨sk, la, h0, g0, nc, ns⟩ := st
  obtain ⟨g1, hg1⟩ := List.exists_mem_of_ne_nil gs hne
  obtain ⟨b1, b2, -⟩ := h g1 hg1
  refine ⟨b1, b2, fun ρ ν ws H locs ls k hS => ?_⟩
  obtain ⟨g, hg, hG⟩ := hall ν hS.2.1
  exact (h g hg).2.2 ρ ν ws H locs ls k ⟨hS.1, hG, hS.2.2⟩
theorem zl_enum {self : Nat} {st : zz_S} {g : zz_G} {k lo tag : Nat} : ∀ {n x : Nat}, x < n → (self, zz_withG st (g.set k (lo + x, lo + x, tag))) ∈ zz_enum self st g k lo tag n
  | n + 1, x, h => by
    show _ ∈ (self, zz_withG st (zz_set (lo + n, lo + n, tag) g k)) :: zz_enum self st g k lo tag n
    rw [zl_set]
    rcases Nat.lt_or_ge x n with h1 | h1
    · exact List.mem_cons_of_mem _ (zl_enum h1)
    · have : x = n := by omega
      subst this
      exact List.mem_cons_self
theorem zl_one {g : zz_G} {ν : List Int32} (h : zr_G g ν) {i lo tag : Nat} (hi : g[i]? = some (lo, lo, tag)) {ρ : List Nat} {x : Value} (hv : zr_V ρ ν (.inr (.inr (.inr i))) x) : x = .int (nI (zz_b lo)) := by
  obtain ⟨j, hj, rfl⟩ := hv
  obtain ⟨j2, e1, e2, e3, -⟩ := h.2 i lo lo tag hi
  rw [hj] at e1
  cases e1
  have : zr_b j = lo := by omega
  rw [← this, ← zl_b_back]
/-- by cases of an unknown: the operation at one number -/
theorem zr_ci {E : zr_E} {d : Nat} {pcs : List Nat} {k : Nat} {st : zz_S} {v : zz_V} {f : Nat → zz_R} (hf : ∀ n : Nat, (∀ (ρ : List Nat) (ν : List Int32) (x : Value), zr_G st.2.2.2.1 ν → zr_V ρ ν v x → x = .int (nI n)) → zr_res E d pcs k st (f n)) : zr_res E d pcs k st (zz_ci k st st.2.2.2.1 v f) := by
  match v with
  | .inl n => exact hf n (fun ρ ν x _ h => h)
  | .inr (.inl a) => exact trivial
  | .inr (.inr (.inl a)) => exact trivial
  | .inr (.inr (.inr i)) =>
    show zr_res E d pcs k st (match zz_nth st.2.2.2.1 i with
      | some (lo, hi, tag) => bif Nat.beq lo hi then f (zz_b lo) else bif Nat.ble hi (lo + 64) then zz_many (zz_enum k st st.2.2.2.1 i lo tag (hi + 1 - lo)) else zz_fail
      | none => zz_fail)
    rw [zl_nth]
    cases hg : st.2.2.2.1[i]? with
    | none => exact trivial
    | some q =>
      obtain ⟨lo, hi, tag⟩ := q
      show zr_res E d pcs k st (bif Nat.beq lo hi then f (zz_b lo) else bif Nat.ble hi (lo + 64) then zz_many (zz_enum k st st.2.2.2.1 i lo tag (hi + 1 - lo)) else zz_fail)
      cases hb : Nat.beq lo hi with
      | true =>
        have he : lo = hi := Nat.eq_of_beq_eq_true hb
        subst he
        exact hf (zz_b lo) (fun ρ ν x hG hv => zl_one hG hg hv)
      | false =>
        cases hb2 : Nat.ble hi (lo + 64) with
        | false => exact trivial
        | true =>
          intro hne hall
          show zr_W E _ st
          refine zr_W.split (gs := (List.range (hi + 1 - lo)).map (fun x => st.2.2.2.1.set i (lo + x, lo + x, tag))) ?_ ?_ ?_
          · intro h0
            rw [List.map_eq_nil_iff, List.range_eq_nil] at h0
            rw [h0] at hne
            exact hne rfl
          · intro ν hG
            obtain ⟨j, e1, e2, e3, e4⟩ := hG.2 i lo hi tag hg
            refine ⟨_, List.mem_map.mpr ⟨zr_b j - lo, List.mem_range.mpr (by omega), rfl⟩, hG.set hg (fun j2 hj2 => ?_)⟩
            rw [e1] at hj2
            cases hj2
            omega
          · intro g1 hg1
            obtain ⟨x, hx, rfl⟩ := List.mem_map.mp hg1
            exact hall _ (zl_enum (List.mem_range.mp hx))
