/-! Arrays.fill, by hand -/
abbrev mJ7_fill_53178 : kM := (yJ7_fill_53178, cJ7_fill_53178, 4, none)
theorem kmtJ7_fill_53178 : kMt mJ7_fill_53178 2 := ⟨⟨(wi_r4 _ (List.mem_of_getElem? (i := 7) rfl)), (wi_r4 _ (List.mem_of_getElem? (i := 6) rfl)), ⟨by decide +kernel, by decide +kernel, by decide +kernel⟩, by decide⟩, (wi_r4 _ (List.mem_of_getElem? (i := 5) rfl))⟩
def kfill (len : Nat) (v : Int32) (g : Nat → Int32) : Nat → Int32 := fun i => if i < len then v else g i
theorem kin_nI {i n : Nat} (h : i < n) (hn : n < 2 ^ 31) : kin (nI i) n = true := by
  have h1 : i < 2 ^ 31 := by omega
  simp only [kin, nI_clamp h1, Bool.and_eq_true, Bool.not_eq_true', decide_eq_false_iff_not, decide_eq_true_eq]
  exact ⟨nI_pos h1, h⟩
theorem fill_loop {X : kX} {G : kG} {R : Room} {v : Int32} {len dd : Nat} (hlen : len < 2 ^ 31) (hN : dd < kg_N G) : ∀ (k i : Nat) (f : Nat → va_E) (g : Nat → Int32), i + k = len → f dd = .inl (kg_I G, len, .inl g) →
    kV (X, RJ7, 4, none, G, R, (0, 0), kQ X G none (va_up f dd (.inl (kg_I G, len, .inl (fun j => if i ≤ j ∧ j < len then v else g j))))) cJ7_fill_53178 f [some (.ref (kg_ad G dd)), some (.int v), some (.int (nI i)), some (.int (nI len))] [] 5
  | 0, i, f, g, hk, he => by
    have hi : i = len := by omega
    subst hi
    refine kV_iloadn 6 dJ7_fill_53178_5 rfl rfl ?_
    refine kV_iloadn 7 dJ7_fill_53178_6 rfl rfl ?_
    refine kV_icmp_ge_t 20 dJ7_fill_53178_7 (by decide) (nI_le (Nat.le_refl _) hlen) ?_
    have e : va_up f dd (.inl (kg_I G, i, .inl (fun j => if i ≤ j ∧ j < i then v else g j))) = f := by
      funext q
      by_cases h : q = dd
      · subst h
        rw [va_up_self, he]
        congr 4
        funext j
        rw [if_neg (by omega)]
      · rw [va_up_ne _ _ h]
    rw [e]
    exact kV_vret dJ7_fill_53178_20
  | k + 1, i, f, g, hk, he => by
    have hlt : i < len := by omega
    have hi31 : i < 2 ^ 31 := by omega
    refine kV_iloadn 6 dJ7_fill_53178_5 rfl rfl ?_
    refine kV_iloadn 7 dJ7_fill_53178_6 rfl rfl ?_
    refine kV_icmp_ge_f 20 10 dJ7_fill_53178_7 (by decide) (nI_ge hlt hlen) rfl ?_
    refine kV_aloadn 11 dJ7_fill_53178_10 rfl rfl ?_
    refine kV_iloadn 12 dJ7_fill_53178_11 rfl rfl ?_
    refine kV_iloadn 13 dJ7_fill_53178_12 rfl rfl ?_
    refine kV_iast (Y := (X, RJ7, 4, none, G, R, (0, 0), _)) 14 dJ7_fill_53178_13 hN he (kin_nI hlt hlen) rfl ?_
    refine kV_iinc 17 [some (.ref (kg_ad G dd)), some (.int v), some (.int (nI (i + 1))), some (.int (nI len))] dJ7_fill_53178_14 rfl (nI_1 i) rfl rfl rfl ?_
    refine kV_goto 5 dJ7_fill_53178_17 (by decide) ?_
    have ih := fill_loop (X := X) (R := R) (v := v) hlen hN k (i + 1) (va_up f dd (.inl (kg_I G, len, .inl (upd g (nI i).toNatClampNeg v)))) (upd g (nI i).toNatClampNeg v) (by omega) (va_up_self _ _ _)
    have e : va_up (va_up f dd (.inl (kg_I G, len, .inl (upd g (nI i).toNatClampNeg v)))) dd (.inl (kg_I G, len, .inl (fun j => if i + 1 ≤ j ∧ j < len then v else upd g (nI i).toNatClampNeg v j))) = va_up f dd (.inl (kg_I G, len, .inl (fun j => if i ≤ j ∧ j < len then v else g j))) := by
      funext q
      by_cases h : q = dd
      · subst h
        rw [va_up_self, va_up_self]
        congr 4
        funext j
        rw [nI_clamp hi31]
        unfold upd
        by_cases h1 : i + 1 ≤ j ∧ j < len
        · rw [if_pos h1, if_pos (by omega)]
        · rw [if_neg h1]
          by_cases h2 : j = i
          · rw [if_pos h2, if_pos (by omega)]
          · rw [if_neg h2, if_neg (by omega)]
      · rw [va_up_ne _ _ h, va_up_ne _ _ h, va_up_ne _ _ h]
    rw [e] at ih
    exact ih
theorem fill_ev {l : Launch} {G : kG} (d : Nat) {v : Int32} {len dd : Nat} (hlen : len < 2 ^ 31) (hN : dd < kg_N G) {f : Nat → va_E} {g : Nat → Int32} (he : f dd = .inl (kg_I G, len, .inl g)) : kEv l G d mJ7_fill_53178 [.ref (kg_ad G dd), .int v] f none (va_up f dd (.inl (kg_I G, len, .inl (kfill len v g)))) := by
  refine kEv_of RJ7 [some (.ref (kg_ad G dd)), some (.int v), none, none] rfl (by decide +kernel) rfl rfl rfl rfl (fun X hX => ?_)
  refine kV_iconst 1 dJ7_fill_53178_0 ic_0 rfl ?_
  refine kV_istoren 2 [some (.ref (kg_ad G dd)), some (.int v), some (.int 0), none] dJ7_fill_53178_1 rfl rfl rfl ?_
  refine kV_aloadn 3 dJ7_fill_53178_2 rfl rfl ?_
  refine kV_alen (Y := (X, RJ7, 4, none, G, krm d, (0, 0), _)) (t0 := 0) (v := nI len) 4 dJ7_fill_53178_3 hN he rfl rfl rfl ?_
  refine kV_istoren 5 [some (.ref (kg_ad G dd)), some (.int v), some (.int 0), some (.int (nI len))] dJ7_fill_53178_4 rfl rfl rfl ?_
  have := fill_loop (X := X) (R := krm d) (v := v) hlen hN len 0 f g (by omega) he
  rw [nI_0] at this
  have e : (fun j => if 0 ≤ j ∧ j < len then v else g j) = kfill len v g := by
    funext j
    simp [kfill]
  rw [e] at this
  exact this
theorem okJ7_fill {l : Launch} {G : kG} {n : Nat} (hG : kg_N G = 55 + 14 * n) (d : Nat) {S : kS} {o ci k len j : Nat} {v : Int32} (hO : kOk G n o) (hc : kci o = ci) (h0 : ¬ (o = 0 ∧ k = 0)) (ha : karr ci k = true) (hl : (kln ci).getD k (false, 0) = (false, len)) (hj : koff ci k = j) (hlen : len < 2 ^ 31) : kEv l G d mJ7_fill_53178 [.ref (kg_ad G (kbo o + j)), .int v] (kgl G n S) none (kgl G n (kpR S o k (kfill len v ((S o).2 k)))) := by
  subst hc; subst hj
  have e := kgl_arr G n S ha h0
  have e2 := fun g => kgl_putR G n S g ha h0
  rw [hl] at e
  simp only [hl] at e2
  have := fill_ev (l := l) d (v := v) hlen (kN_arr hO ha) e
  have e3 : va_up (kgl G n S) (kbo o + koff (kci o) k) (.inl (kg_I G, len, .inl (kfill len v ((S o).2 k)))) = kgl G n (kpR S o k (kfill len v ((S o).2 k))) := funext (e2 _)
  rw [e3] at this
  exact this
