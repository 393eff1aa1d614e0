/-! THE REFERENCE'S element at a word with a digit that isn't 1: its loop calls a method, so the depth must be told (written by wip/p1/genelem.py) -/
theorem zr_run2 {M : zr_M} {pcs : List Nat} {code : List zz_Op} {E : zr_E} {d : Nat} {ev : Nat → List zz_V → List zz_C → zz_G → Option (List zz_O)} (hX : zr_X M d E) (hev : zr_evOk (zr_l E) (zr_D E) d ev) (hok : ∀ (k : Nat) (op : zz_Op), code[k]? = some op → ∀ st : zz_S, zr_res E d pcs k st (op st)) : ∀ (n k : Nat) (st : zz_S) (outs : List zz_O), zz_run ev code n (code.drop k) st = some outs → outs ≠ [] ∧ ((∀ o ∈ outs, zr_endO E o) → zr_go E pcs k st) := by
  intro n
  induction n with
  | zero => intro k st outs h; cases h
  | succ n ih =>
    intro k st outs h
    cases hc : code.drop k with
    | nil => rw [hc] at h; cases h
    | cons op rest =>
      rw [hc] at h
      have hk : code[k]? = some op := by
        have : (code.drop k)[0]? = some op := by rw [hc]; rfl
        rwa [List.getElem?_drop, Nat.add_zero] at this
      have hrest : code.drop (k + 1) = rest := by
        rw [← List.drop_drop, hc]; rfl
      have ho := hok k op hk st
      change (match op st with
        | .inl st2 => zz_run ev code n rest st2
        | .inr (.inl (t, st2)) => zz_run ev code n (zz_drop t code) st2
        | .inr (.inr (.inl l)) => List.casesOn l none (fun q t => zz_cat (fun q => zz_run ev code n (zz_drop q.1 code) q.2) (q :: t))
        | .inr (.inr (.inr (.inl (v, (_, _, h, g, c, s))))) => some [(v, h, g, c, s)]
        | .inr (.inr (.inr (.inr (.inl (mi, as, (k, l, h, g, c, s)))))) => (match ev mi as h g with
          | none => none
          | some outs => zz_cat (fun o => zz_run ev code n rest (zz_after (k, l, h, g, c, s) (zz_mc outs) (zz_ms outs) o)) outs)
        | .inr (.inr (.inr (.inr (.inr _)))) => none) = some outs at h
      match hr : op st with
      | .inl st2 =>
        rw [hr] at h ho
        rw [← hrest] at h
        obtain ⟨h1, h2⟩ := ih (k + 1) st2 outs h
        exact ⟨h1, fun he => ho (h2 he)⟩
      | .inr (.inl (t, st2)) =>
        rw [hr] at h ho
        have h : zz_run ev code n (zz_drop t code) st2 = some outs := h
        rw [zl_drop] at h
        obtain ⟨h1, h2⟩ := ih t st2 outs h
        exact ⟨h1, fun he => ho (h2 he)⟩
      | .inr (.inr (.inl [])) =>
        rw [hr] at h
        cases h
      | .inr (.inr (.inl (q :: t))) =>
        rw [hr] at h ho
        have hcat := zl_cat (show zz_cat (fun q => zz_run ev code n (zz_drop q.1 code) q.2) (q :: t) = some outs from h)
        refine ⟨?_, fun he => ho (by simp) (fun a ha => ?_)⟩
        · obtain ⟨x, e1, e2⟩ := hcat q List.mem_cons_self
          rw [zl_drop] at e1
          obtain ⟨h1, -⟩ := ih _ _ _ e1
          obtain ⟨o, ho⟩ := List.exists_mem_of_ne_nil x h1
          exact List.ne_nil_of_mem (e2 o ho)
        · obtain ⟨x, e1, e2⟩ := hcat a ha
          rw [zl_drop] at e1
          exact (ih _ _ _ e1).2 (fun o ho => he o (e2 o ho))
      | .inr (.inr (.inr (.inl (v, (sk, la, hp, g, c, s))))) =>
        rw [hr] at h ho
        have h : some [(v, hp, g, c, s)] = some outs := h
        cases h
        refine ⟨by simp, fun he => ho ?_⟩
        have := he _ List.mem_cons_self
        obtain ⟨p, l, e, R, s, m, args, below, meth, c, D, A, H0, nL, ρ0, ν0, Qc⟩ := E
        exact this
      | .inr (.inr (.inr (.inr (.inl (mi, as, (sk, la, hp, g, c, s)))))) =>
        rw [hr] at h ho
        have h : (match ev mi as hp g with
          | none => none
          | some outs => zz_cat (fun o => zz_run ev code n rest (zz_after (sk, la, hp, g, c, s) (zz_mc outs) (zz_ms outs) o)) outs) = some outs := h
        cases hv : ev mi as hp g with
        | none => rw [hv] at h; cases h
        | some o1 =>
          rw [hv] at h
          have hcat := zl_cat (show zz_cat (fun o => zz_run ev code n rest (zz_after (sk, la, hp, g, c, s) (zz_mc o1) (zz_ms o1) o)) o1 = some outs from h)
          obtain ⟨g1, g2⟩ := hev mi as hp g o1 hv
          refine ⟨?_, fun he => ho o1 g1 g2 (fun a ha => ?_)⟩
          · obtain ⟨a, ha⟩ := List.exists_mem_of_ne_nil o1 g1
            obtain ⟨x, e1, e2⟩ := hcat a ha
            rw [← hrest] at e1
            obtain ⟨h1, -⟩ := ih _ _ _ e1
            obtain ⟨o, ho⟩ := List.exists_mem_of_ne_nil x h1
            exact List.ne_nil_of_mem (e2 o ho)
          · obtain ⟨x, e1, e2⟩ := hcat a ha
            rw [← hrest] at e1
            exact (ih _ _ _ e1).2 (fun o ho => he o (e2 o ho))
      | .inr (.inr (.inr (.inr (.inr _)))) =>
        rw [hr] at h
        cases h
/-- the same, of operations that keep what they must at this depth -/
theorem zr_met2 {code0 : List zz_Op} {l : Launch} {D : va_G} {d mi nL N : Nat} {y : MethodName} {cc : ByteArray} {ret : Option FieldType} {code : List zz_Op} {pcs : List Nat} {as : List zz_V} {h : List zz_C} {g : zz_G} {outs : List zz_O} {ev : Nat → List zz_V → List zz_C → zz_G → Option (List zz_O)} (hev : zr_evOk l D d ev) (hm : zm_all mi = (code0, nL, y, cc, ret, pcs)) (hok : ∀ E : zr_E, zr_X (y.cls, cc, nL, ret, y.name) d E → zr_evOk (zr_l E) (zr_D E) d ev → ∀ (k : Nat) (op : zz_Op), code[k]? = some op → ∀ st : zz_S, zr_res E d pcs k st (op st)) (hpc : pcs.getD 0 0 = 0) (hpl : plainName y.cls = true) (hwt : zz_wt as ≤ nL) (hrun : zz_run ev code N code ([], zz_pad nL (zz_locs as), h, g, 0, 0) = some outs) : outs ≠ [] ∧ zr_Met l D (d + 1) mi as h g outs := by
  refine ⟨?_, d + 1, Nat.le_refl _, fun ρ ν ws vs sz mc ms hVs hG hb => ?_⟩
  · exact zl_run_ne (fun mi as h g outs h2 => (hev mi as h g outs h2).1) N code _ outs hrun
  · unfold zm_y zm_ws
    rw [hm]
    refine Met.ofW (cc := cc) (maxL := nL) (ret := ret) hpl rfl ?_
    intro p e s m args below meth c s₁ B hml hv
    obtain ⟨rfl, hsz, hP, hK, hD0, hH, hEx⟩ := hv
    have hts := atoms_spec (ws := Cond.code y cc nL ret :: zg_tbl) B.pre
    have hA : ∀ q : Nat, s.heap.size ≤ q → va_A ws sz q := fun q hq => Or.inr (by rw [← hsz]; exact hq)
    have hX : zr_X (y.cls, cc, nL, ret, y.name) d (p, l, e, zr_rm (d + 1) mc ms, s, m, vs.toArray, below, meth, c, D, va_A ws sz, s.heap, nL, ρ, ν, zr_Q D ρ ν ws sz outs) := ⟨B.exec, B.bytes, hml, findClass_of_methodNamed B.named, fun w hw => hts w (List.mem_cons_of_mem _ hw), hK, B.notSynchronized, B.returns, (name_of_methodNamed B.named B.method).1, rfl, hA, rfl, rfl, hEx⟩
    have hgo := (zr_run2 hX hev (hok _ hX hev) N 0 _ outs hrun).2 (fun o ho => ⟨(hb o ho).1, (hb o ho).2, fun ρ2 ν2 ws2 H locs rv h1 h2 h3 h4 h5 h6 h7 h8 t ht hW => ⟨⟨o, ho, ρ2, ν2, ws2, rv, rfl, h1, h2, h3, h4.moved hW.alike, h5, by rw [ht]; exact h6, h7⟩, h8.F ht⟩⟩)
    have hle := lv_entry vs (n := nL) (by rw [zl_sl hVs]; exact hwt)
    rw [lg_entry_eq]
    generalize (lg_sl vs ++ List.replicate (nL - (lg_sl vs).length) Slot.unset).toArray = ls at hle ⊢
    have hL : zr_L ρ ν (zz_pad nL (zz_locs as)) ls nL := by
      refine ⟨hle.1, hle.2.1, fun k a hk => ?_⟩
      obtain ⟨v, e1, e2⟩ := zl_locs (i := 0) hVs (zl_pad hk)
      rw [Nat.zero_add] at e2
      exact ⟨v, e1, hle.2.2 (k, v) e2⟩
    have hW := hgo.2.2 ρ ν ws s.heap [] ls [] ⟨⟨List.prefix_refl _, List.prefix_refl _⟩, hG, hH, hL, trivial, hP, hD0.self, va_S.rf⟩
    rw [hpc] at hW
    exact hW

noncomputable def zz_sm0 : Nat → Nat → List zz_V → List zz_C → zz_G → Option (List zz_O) := fun _ _ _ _ _ => none
theorem zz_sm0_ok (l : Launch) (D : va_G) : zr_smOk l D zz_sm0 := fun _ _ _ _ _ _ h => by cases h
/-- the loop over a word's digits -/
noncomputable def zz_hwm (t : Nat) : zz_Op := fun st => match st with
  | ([], [some (.inr (.inl a)), some (.inr (.inr (.inr jb))), some (.inr (.inr (.inr w))), some (.inr (.inr (.inr i))), some (.inl 1), none, none, none], h, g, c, s) => bif zz_tag g i then (match zz_nth g jb with
    | some (lo, hi, _) => bif Nat.beq lo hi then zz_pred a (fun a => match zz_nth h a with
      | some (.inl (d, _ :: .inr (.inl mm) :: _)) => zz_pred mm (fun mm => match zz_nth h mm with
        | some (.inr (kd, n, df, p)) => bif Nat.beq d 6 && (Nat.beq kd 0 && (Nat.ble (zz_b lo + 1) n && Nat.beq (zz_el df p (zz_b lo)) 1)) then .inr (.inl (t, ([], [some (.inr (.inl (a + 1))), some (.inr (.inr (.inr jb))), some (.inr (.inr (.inr w))), none, some (.inl 0), none, none, none], h, g, c, s))) else zz_fail
        | _ => zz_fail)
      | _ => zz_fail) else zz_fail
    | none => zz_fail) else zz_load zz_isI 3 st
  | _ => zz_load zz_isI 3 st
noncomputable def zc_elB : List zz_Op := [zz_load zz_isA 0, zz_push (.inl 0), zz_putf 6 0 0, zz_load zz_isI 1, zz_call zz_any 122 1, zz_eq0 5 9 0, zz_load zz_isI 2, zz_lt0 7 0 11, zz_push (.inl 4294967294), zz_ret1 zz_isI, zz_load zz_isI 2, zz_store zz_isI 3, zz_push (.inl 1), zz_store zz_isI 4, zz_hwm 33, zz_gt0 15 0 34, zz_load zz_isI 4, zz_load zz_isI 3, zz_push (.inl 10), zz_rem 19, zz_push (.inl 1), zz_load zz_isA 0, zz_get 6 1, zz_load zz_isI 1, zz_ald 24 0, zz_call zz_any 121 3, zz_bin 26 zz_and, zz_store zz_isI 4, zz_load zz_isI 3, zz_push (.inl 10), zz_div 30, zz_store zz_isI 3, zz_goto 14, zz_load zz_isI 4, zz_eq0 34 0 38, zz_push (.inl 4294967294), zz_ret1 zz_isI, zz_load zz_isA 0, zz_load zz_isI 1, zz_call (zz_recv 6) 133 2, zz_eq0 40 0 44, zz_no, zz_no, zz_push (.inl 1), zz_store zz_isI 5, zz_load zz_isI 2, zz_load zz_isI 5, zz_div 47, zz_push (.inl 9), zz_igt 49 0 56, zz_load zz_isI 5, zz_push (.inl 10), zz_bin 52 zz_mul, zz_store zz_isI 5, zz_goto 45, zz_push (.inl 0), zz_store zz_isI 6, zz_load zz_isI 5, zz_store zz_isI 7, zz_load zz_isI 7, zz_gt0 60 0 84, zz_load zz_isI 2, zz_gt0 62 0 84, zz_load zz_isA 0, zz_get 6 11, zz_push (.inl 4), zz_load zz_isI 6, zz_bin 67 zz_mul, zz_load zz_isI 2, zz_load zz_isI 7, zz_div 70, zz_push (.inl 10), zz_rem 72, zz_bin 73 zz_add, zz_push (.inl 1), zz_bin 75 zz_sub, zz_ald 76 0, zz_store zz_isI 6, zz_load zz_isI 7, zz_push (.inl 10), zz_div 80, zz_store zz_isI 7, zz_goto 59, zz_load zz_isI 6, zz_ret1 zz_isI]
theorem zc_elB_eq : zc_elB = zc_M_element.set 14 (zz_hwm 33) := rfl
theorem zs_call {M : zr_M} {E : zr_E} {d : Nat} {pcs : List Nat} {k mi : Nat} {op : zz_Op} {st st2 : zz_S} {as : List zz_V} {outs : List zz_O} (h : zr_Ok M pcs k op) (hX : zr_X M d E) (e : op st = .inr (.inr (.inr (.inr (.inl (mi, as, st2)))))) (hne : outs ≠ []) (hM : zr_Met (zr_l E) (zr_D E) d mi as st2.2.2.1 st2.2.2.2.1 outs) (hn : ∀ o ∈ outs, zr_go E pcs (k + 1) (zz_after st2 (zz_mc outs) (zz_ms outs) o)) : zr_go E pcs k st := by
  have := h E d hX st
  rw [e] at this
  exact this outs hne hM hn
theorem zs_ciU {self jb lo tg : Nat} {st : zz_S} {g : zz_G} {f : Nat → zz_R} (hg : g[jb]? = some (lo, lo, tg)) : zz_ci self st g (.inr (.inr (.inr jb))) f = f (zz_b lo) := by
  show (match zz_nth g jb with
    | some (lo, hi, tag) => bif Nat.beq lo hi then f (zz_b lo) else bif Nat.ble hi (lo + 64) then zz_many (zz_enum self st g jb lo tag (hi + 1 - lo)) else zz_fail
    | none => zz_fail) = _
  rw [zl_nth, hg]
  simp only
  rw [Nat.beq_refl]
  rfl
theorem zs_aldU {self jb lo tg mm n df p : Nat} {k : List zz_V} {l : List (Option zz_V)} {h : List zz_C} {g : zz_G} {c s : Nat} (hg : g[jb]? = some (lo, lo, tg)) (hm : h[mm]? = some (.inr (0, n, df, p))) (hn : zz_b lo < n) : zz_ald self 0 (.inr (.inr (.inr jb)) :: .inr (.inl (mm + 1)) :: k, l, h, g, c, s) = .inl (.inl (zz_el df p (zz_b lo)) :: k, l, h, g, c, s) := by
  show zz_ci self (.inr (.inr (.inr jb)) :: .inr (.inl (mm + 1)) :: k, l, h, g, c, s) g (.inr (.inr (.inr jb))) (fun i => zz_pred (mm + 1) (fun a => match zz_nth h a with
        | some (.inr (kd2, n, d, p)) => bif Nat.beq 0 kd2 && Nat.ble (i + 1) n then (.inl (zz_elv 0 (zz_el d p i) :: k, l, h, g, c, s) : zz_R) else zz_fail
        | _ => zz_fail)) = _
  rw [zs_ciU hg]
  generalize zz_b lo = v at hn ⊢
  show (match zz_nth h mm with
        | some (.inr (kd2, n, d, p)) => bif Nat.beq 0 kd2 && Nat.ble (v + 1) n then (.inl (zz_elv 0 (zz_el d p v) :: k, l, h, g, c, s) : zz_R) else zz_fail
        | _ => zz_fail) = _
  rw [zl_nth, hm]
  show (bif Nat.beq 0 0 && Nat.ble (v + 1) n then (.inl (zz_elv 0 (zz_el df p v) :: k, l, h, g, c, s) : zz_R) else zz_fail) = _
  rw [Nat.ble_eq_true_of_le hn]
  rfl
theorem zw_in {dd x : Nat} {h : List zz_C} {g : zz_G} (hdd : 1 ≤ dd) (hx : x < 10) : zz_eval zz_sm0 zz_mt dd 121 [.inl x, .inl 1, .inl 1] h g = some [(some (.inl (bif Nat.beq x 1 then 1 else 0)), h, g, 0, 0)] := by
  obtain ⟨e, rfl⟩ : ∃ e, dd = e + 1 := ⟨dd - 1, by omega⟩
  match x, hx with
  | 0, _ => rfl
  | 1, _ => rfl
  | 2, _ => rfl
  | 3, _ => rfl
  | 4, _ => rfl
  | 5, _ => rfl
  | 6, _ => rfl
  | 7, _ => rfl
  | 8, _ => rfl
  | 9, _ => rfl
section ZHM
variable {E : zr_E} {dd : Nat}
theorem zw_endM (hX : zr_X zM_M_element dd E) {a jb f w : Nat} {h : List zz_C} {g : zz_G} {c s : Nat} (hn : zr_go E zp_M_element 33 ([], [some (.inr (.inl (a + 1))), some (.inr (.inr (.inr jb))), some (.inr (.inr (.inr w))), none, some (.inl f), none, none, none], h, g, c, s)) : zr_go E zp_M_element 14 ([], [some (.inr (.inl (a + 1))), some (.inr (.inr (.inr jb))), some (.inr (.inr (.inr w))), some (.inl 0), some (.inl f), none, none, none], h, g, c, s) := by
  refine zs_next zk_M_element_14 hX rfl (zs_jump zk_M_element_15 hX zs_gt0F ?_)
  refine zr_weak (fun j x hj => ?_) hn
  match j, hj with
  | 0, hj => exact hj
  | 1, hj => exact hj
  | 2, hj => exact hj
  | 3, hj => cases hj
  | 4, hj => exact hj
  | 5, hj => exact hj
  | 6, hj => exact hj
  | 7, hj => exact hj
  | j + 8, hj => simp at hj
theorem zw_loopM (hX : zr_X zM_M_element dd E) (hev : zr_evOk (zr_l E) (zr_D E) dd (zz_eval zz_sm0 zz_mt dd)) (hdd : 1 ≤ dd) {a jb lo tg mm n df p w : Nat} {x0 : zz_V} {fs : List zz_V} {h : List zz_C} {g : zz_G} {c s : Nat} (ha : h[a]? = some (.inl (6, x0 :: .inr (.inl (mm + 1)) :: fs))) (hg : g[jb]? = some (lo, lo, tg)) (hm : h[mm]? = some (.inr (0, n, df, p))) (hn : zz_b lo < n) (h1 : zz_el df p (zz_b lo) = 1) : ∀ (N r f : Nat), f ≤ 1 → r < 2147483648 → r < 10 ^ N → zr_go E zp_M_element 33 ([], [some (.inr (.inl (a + 1))), some (.inr (.inr (.inr jb))), some (.inr (.inr (.inr w))), none, some (.inl (zw_fl f N r)), none, none, none], h, g, c, s) → zr_go E zp_M_element 14 ([], [some (.inr (.inl (a + 1))), some (.inr (.inr (.inr jb))), some (.inr (.inr (.inr w))), some (.inl r), some (.inl f), none, none, none], h, g, c, s) := by
  intro N
  induction N with
  | zero =>
    intro r f hf hr hr2 hk
    have h0r : r = 0 := by
      have : r < 1 := hr2
      omega
    subst h0r
    rw [zw_fl0 hf] at hk
    exact zw_endM hX hk
  | succ N ih =>
    intro r f hf hr hr2 hk
    rcases Nat.eq_zero_or_pos r with h0r | h0r
    · subst h0r
      rw [zw_fl0 hf] at hk
      exact zw_endM hX hk
    · have hr3 : r / 10 < 10 ^ N := by rw [Nat.pow_succ] at hr2; omega
      have hd : r % 10 < 10 := by omega
      refine zs_next zk_M_element_14 hX rfl (zs_next zk_M_element_15 hX (zs_gt0T hr h0r) (zs_next zk_M_element_16 hX rfl (zs_next zk_M_element_17 hX rfl (zs_next zk_M_element_18 hX rfl (zs_next zk_M_element_19 hX (zs_rem hr) (zs_next zk_M_element_20 hX rfl (zs_next zk_M_element_21 hX rfl (zs_next zk_M_element_22 hX (zs_get ha rfl) (zs_next zk_M_element_23 hX rfl (zs_next zk_M_element_24 hX (zs_aldU hg hm hn) ?_))))))))))
      rw [h1]
      refine zs_call (mi := 121) (as := [.inl (r % 10), .inl 1, .inl 1]) (st2 := ([.inl f], [some (.inr (.inl (a + 1))), some (.inr (.inr (.inr jb))), some (.inr (.inr (.inr w))), some (.inl r), some (.inl f), none, none, none], h, g, c, s)) zk_M_element_25 hX rfl (List.cons_ne_nil _ _) (hev 121 [.inl (r % 10), .inl 1, .inl 1] h g _ (zw_in hdd hd)).2 (fun o ho => ?_)
      rw [List.mem_singleton.mp ho]
      have hgo : ∀ bit f2 : Nat, Nat.land f bit = f2 → zr_go E zp_M_element 14 ([], [some (.inr (.inl (a + 1))), some (.inr (.inr (.inr jb))), some (.inr (.inr (.inr w))), some (.inl (r / 10)), some (.inl f2), none, none, none], h, g, c, s) → zr_go E zp_M_element 26 ([.inl bit, .inl f], [some (.inr (.inl (a + 1))), some (.inr (.inr (.inr jb))), some (.inr (.inr (.inr w))), some (.inl r), some (.inl f), none, none, none], h, g, c, s) := by
        intro bit f2 e hh
        refine zs_next (st2 := ([.inl f2], [some (.inr (.inl (a + 1))), some (.inr (.inr (.inr jb))), some (.inr (.inr (.inr w))), some (.inl r), some (.inl f), none, none, none], h, g, c, s)) zk_M_element_26 hX (by rw [← e]; rfl) ?_
        refine zs_next (st2 := ([], [some (.inr (.inl (a + 1))), some (.inr (.inr (.inr jb))), some (.inr (.inr (.inr w))), some (.inl r), some (.inl f2), none, none, none], h, g, c, s)) zk_M_element_27 hX rfl (zs_next zk_M_element_28 hX rfl (zs_next zk_M_element_29 hX rfl (zs_next zk_M_element_30 hX (zs_div hr) ?_)))
        exact zs_next (st2 := ([], [some (.inr (.inl (a + 1))), some (.inr (.inr (.inr jb))), some (.inr (.inr (.inr w))), some (.inl (r / 10)), some (.inl f2), none, none, none], h, g, c, s)) zk_M_element_31 hX rfl (zs_jump zk_M_element_32 hX rfl hh)
      rcases Nat.eq_zero_or_pos f with hf0 | hf0
      · subst hf0
        exact hgo _ 0 (Nat.zero_and _) (ih (r / 10) 0 (by omega) (by omega) hr3 (by rw [zw_flZ] at hk ⊢; exact hk))
      · have hf1 : f = 1 := by omega
        subst hf1
        by_cases hq : r % 10 = 1
        · refine hgo _ 1 (by rw [hq]; rfl) (ih (r / 10) 1 (by omega) (by omega) hr3 (by rw [zw_flG h0r hq] at hk; exact hk))
        · refine hgo _ 0 (by rw [zw_beq hq]; rfl) (ih (r / 10) 0 (by omega) (by omega) hr3 (by rw [zw_flB h0r hq] at hk; rw [zw_flZ]; exact hk))
theorem zh_elem (hX : zr_X zM_M_element dd E) (hev : zr_evOk (zr_l E) (zr_D E) dd (zz_eval zz_sm0 zz_mt dd)) (hdd : 1 ≤ dd) (st : zz_S) : zr_res E dd zp_M_element 14 st (zz_hwm 33 st) := by
  unfold zz_hwm
  split
  · rename_i a jb w i h g c s
    refine zr_bif (fun htag => ?_) (fun _ => zk_M_element_14 E dd hX _)
    rw [zl_nth]
    match hg : g[jb]? with
    | none => exact zr_fail
    | some (lo, hi, tg) =>
    show zr_res E dd zp_M_element 14 _ (bif Nat.beq lo hi then zz_pred a (fun a => match zz_nth h a with
      | some (.inl (d, _ :: .inr (.inl mm) :: _)) => zz_pred mm (fun mm => match zz_nth h mm with
        | some (.inr (kd, n, df, p)) => bif Nat.beq d 6 && (Nat.beq kd 0 && (Nat.ble (zz_b lo + 1) n && Nat.beq (zz_el df p (zz_b lo)) 1)) then .inr (.inl (33, ([], [some (.inr (.inl (a + 1))), some (.inr (.inr (.inr jb))), some (.inr (.inr (.inr w))), none, some (.inl 0), none, none, none], h, g, c, s))) else zz_fail
        | _ => zz_fail)
      | _ => zz_fail) else zz_fail)
    refine zr_bif (fun hlo => ?_) (fun _ => zr_fail)
    have hlo := Nat.eq_of_beq_eq_true hlo
    subst hlo
    match a with
    | 0 => exact zr_fail
    | a + 1 =>
    show zr_res E dd zp_M_element 14 _ (match zz_nth h a with
      | some (.inl (d, _ :: .inr (.inl mm) :: _)) => zz_pred mm (fun mm => match zz_nth h mm with
        | some (.inr (kd, n, df, p)) => bif Nat.beq d 6 && (Nat.beq kd 0 && (Nat.ble (zz_b lo + 1) n && Nat.beq (zz_el df p (zz_b lo)) 1)) then .inr (.inl (33, ([], [some (.inr (.inl (a + 1))), some (.inr (.inr (.inr jb))), some (.inr (.inr (.inr w))), none, some (.inl 0), none, none, none], h, g, c, s))) else zz_fail
        | _ => zz_fail)
      | _ => zz_fail)
    rw [zl_nth]
    split
    · rename_i d6 x0 mm fs ha
      match mm with
      | 0 => exact zr_fail
      | mm + 1 =>
      show zr_res E dd zp_M_element 14 _ (match zz_nth h mm with
        | some (.inr (kd, n, df, p)) => bif Nat.beq d6 6 && (Nat.beq kd 0 && (Nat.ble (zz_b lo + 1) n && Nat.beq (zz_el df p (zz_b lo)) 1)) then .inr (.inl (33, ([], [some (.inr (.inl (a + 1))), some (.inr (.inr (.inr jb))), some (.inr (.inr (.inr w))), none, some (.inl 0), none, none, none], h, g, c, s))) else zz_fail
        | _ => zz_fail)
      rw [zl_nth]
      match hm : h[mm]? with
      | none => exact zr_fail
      | some (.inl _) => exact zr_fail
      | some (.inr (kd, n, df, p)) =>
      refine zr_bif (fun hb => ?_) (fun _ => zr_fail)
      simp only [Bool.and_eq_true] at hb
      obtain ⟨e1, e2, e3, e4⟩ := hb
      have e1 := Nat.eq_of_beq_eq_true e1
      have e2 := Nat.eq_of_beq_eq_true e2
      have e3 := Nat.le_of_ble_eq_true e3
      have e4 := Nat.eq_of_beq_eq_true e4
      subst e1 e2
      intro hn
      show zr_W E (zp_M_element.getD 14 0) _
      refine zr_W.of hn rfl (fun ρ ν ws H locs ls kk hS => ?_)
      obtain ⟨j, hj, hbad⟩ := zw_tag hS.G htag
      obtain ⟨r, rfl, hr⟩ := zw_num hbad
      have hgo := zw_loopM hX hev hdd (w := w) (g := g) (c := c) (s := s) ha hg hm e3 e4 10 r 1 (by omega) hr (by omega) (by rw [zw_fl10 hr hbad]; exact hn)
      refine zr_W.use (ρ := ρ) (ν := ν) (ws := ws) hgo ?_
      obtain ⟨p, l, e, R, s, m, args, below, meth, c, D, A, H0, nL, ρ0, ν0, Qc⟩ := E
      refine ⟨hS.1, hS.2.1, hS.2.2.1, ⟨hS.2.2.2.1.1, hS.2.2.2.1.2.1, fun q x hq => ?_⟩, hS.2.2.2.2⟩
      match q, hq with
      | 0, hq => exact hS.2.2.2.1.2.2 0 x hq
      | 1, hq => exact hS.2.2.2.1.2.2 1 x hq
      | 2, hq => exact hS.2.2.2.1.2.2 2 x hq
      | 3, hq =>
        have hq : some (some (.inl r)) = some (some x) := hq
        cases hq
        obtain ⟨v, ⟨j2, e1, e2⟩, e3⟩ := hS.2.2.2.1.2.2 3 (.inr (.inr (.inr i))) rfl
        rw [hj] at e1
        cases e1
        exact ⟨v, e2, e3⟩
      | 4, hq => exact hS.2.2.2.1.2.2 4 x hq
      | 5, hq => exact hS.2.2.2.1.2.2 5 x hq
      | 6, hq => exact hS.2.2.2.1.2.2 6 x hq
      | 7, hq => exact hS.2.2.2.1.2.2 7 x hq
      | q + 8, hq => simp at hq
    · exact zr_fail
  · exact zk_M_element_14 E dd hX _
end ZHM
noncomputable def zz_isBad (as : List zz_V) (g : zz_G) : Bool := match as with
  | [_, _, .inr (.inr (.inr i))] => zz_tag g i
  | _ => false
/-- the reference's element at a word that is marked -/
noncomputable def zz_smE : Nat → Nat → List zz_V → List zz_C → zz_G → Option (List zz_O) := fun d mi as h g => bif Nat.beq mi 161 && (zz_isBad as g && (Nat.ble 1 d && Nat.ble (zz_wt as) 8)) then zz_run (zz_eval zz_sm0 zz_mt d) zc_elB 100000 zc_elB ([], zz_pad 8 (zz_locs as), h, g, 0, 0) else none
theorem zz_smE_ok (l : Launch) (D : va_G) : zr_smOk l D zz_smE := by
  intro d mi as h g outs h2
  unfold zz_smE at h2
  cases hc : Nat.beq mi 161 && (zz_isBad as g && (Nat.ble 1 d && Nat.ble (zz_wt as) 8)) with
  | false => rw [hc] at h2; cases h2
  | true =>
  rw [hc] at h2
  have h2 : zz_run (zz_eval zz_sm0 zz_mt d) zc_elB 100000 zc_elB ([], zz_pad 8 (zz_locs as), h, g, 0, 0) = some outs := h2
  simp only [Bool.and_eq_true] at hc
  obtain ⟨e1, -, e3, e4⟩ := hc
  have e1 := Nat.eq_of_beq_eq_true e1
  subst e1
  refine zr_met2 (code0 := zc_M_element) (y := yX8_element) (cc := cX8_element) (ret := some .int) (pcs := zp_M_element) (nL := 8) (N := 100000) (zr_sound zr_tab_ok (zz_sm0_ok l D) d) rfl (fun E hX hev k op hk st => ?_) rfl (by decide +kernel) (Nat.le_of_ble_eq_true e4) h2
  rw [zc_elB_eq] at hk
  by_cases hk14 : 14 = k
  · subst hk14
    have hk : some (zz_hwm 33) = some op := hk
    cases hk
    exact zh_elem hX hev (Nat.le_of_ble_eq_true e3) st
  · rw [List.getElem?_set_ne hk14] at hk
    have := zr_OkL.at zk_M_element hk
    rw [Nat.zero_add] at this
    exact this E d hX st
