/-! contracts over a world, and the calls -/
def kGw (G : kG) : Prop := (∀ i j, i < kg_N G → j < kg_N G → kg_ad G i = kg_ad G j → i = j) ∧ ∀ d, d < kg_N G → kg_b G ≤ kg_ad G d
def kRp (G : kG) (f : Nat → va_E) (U : State) : Prop := va_P (kg_D G) vwCl (kwl (kg_ad G) (kg_N G) f) U.heap ∧ va_K (kg_D G) vwCl (kg_tys G) U ∧ kNw U ∧ kGw G ∧ kg_b G ≤ U.heap.size
def krm (d : Nat) : Room := { frames := d, cells := 0, slots := 0, locals := 40 * d }
abbrev kM : Type := MethodName × ByteArray × Nat × Option FieldType
def kQc (G : kG) (r : Option Value) (f' : Nat → va_E) : Array Value → State → Outcome → State → Prop := fun _ st o t => (o = .returned r ∧ kRp G f' t) ∧ va_F (fun q => kg_b G ≤ q) st t
def kEv (l : Launch) (G : kG) (d : Nat) (M : kM) (as : List Value) (f : Nat → va_E) (r : Option Value) (f' : Nat → va_E) : Prop :=
  Met l M.1 (Cond.code M.1 M.2.1 M.2.2.1 M.2.2.2 :: wsL_law) (krm d) (va_Pc as (kRp G f)) (kQc G r f') 0 0 (fun q => kg_b G ≤ q)
def kQ (X : kX) (G : kG) (r : Option Value) (f' : Nat → va_E) : State → Prop := MQ (kx_b X) (kQc G r f') (kx_a X) (kx_s X) 0 0 (fun q => kg_b G ≤ q)
theorem kRp_blind (G : kG) (f : Nat → va_E) (as : List Value) : FrameBlind (va_Pc as (kRp G f)) := fun a U g mk q => by
  obtain ⟨q0, qP, qK, qN, qG, qb⟩ := q
  exact ⟨q0, qP, va_K.moved (u := U) (U := U.calling g mk a) (Vm.Alike.refl U.vm) qK, qN.same rfl, qG, qb⟩
def kl0 (as : List Value) (n : Nat) : List (Option Value) := as.map some ++ List.replicate (n - as.length) none
theorem lv_args_mem : ∀ (vs : List Value) (k i : Nat) (v : Value), (∀ w ∈ vs, w.category = 1) → vs[i]? = some v → (k + i, v) ∈ lv_args k vs
  | [], k, i, v, _, h => by simp at h
  | w :: vs, k, 0, v, hc, h => by simp at h; subst h; simp [lv_args]
  | w :: vs, k, i + 1, v, hc, h => by
    have h1 := hc w List.mem_cons_self
    have := lv_args_mem vs (k + 1) i v (fun z hz => hc z (List.mem_cons_of_mem _ hz)) (by simpa using h)
    simp only [lv_args, h1]
    refine List.mem_cons_of_mem _ ?_
    simpa [Nat.add_assoc, Nat.add_comm 1 i] using this
theorem lg_sl_len : ∀ (vs : List Value), (∀ w ∈ vs, w.category = 1) → (lg_sl vs).length = vs.length
  | [], _ => rfl
  | w :: vs, h => by
    have h1 := h w List.mem_cons_self
    have := lg_sl_len vs (fun z hz => h z (List.mem_cons_of_mem _ hz))
    simp [lg_sl, h1] at this ⊢
    exact this
theorem kLs_entry (as : List Value) {n : Nat} (hc : ∀ w ∈ as, w.category = 1) (hn : as.length ≤ n) : kLs ((lg_sl as ++ List.replicate (n - (lg_sl as).length) Slot.unset).toArray) n (kl0 as n) := by
  have h := lv_entry as (n := n) (by rw [lg_sl_len as hc]; exact hn)
  refine ⟨h.1, h.2.1, fun i v hi => ?_⟩
  unfold kl0 at hi
  have hv : as[i]? = some v := by
    by_cases q : i < as.length
    · rw [List.getElem?_append_left (by simpa using q), List.getElem?_map] at hi
      cases hz : as[i]? with
      | none => rw [hz] at hi; cases hi
      | some w => rw [hz] at hi; simp at hi; rw [hi]
    · rw [List.getElem?_append_right (by simp; omega), List.getElem?_replicate] at hi
      split at hi <;> cases hi
  have hm := lv_args_mem as 0 i v hc hv
  rw [Nat.zero_add] at hm
  exact ⟨h.2.2 _ hm, hc v (List.mem_of_getElem? hv)⟩
def kcat (as : List Value) : Bool := as.all (fun w => w.category == 1)
theorem kcat_spec {as : List Value} (h : kcat as = true) : ∀ w ∈ as, w.category = 1 := fun w hw => by simpa using List.all_eq_true.mp h w hw
/-- a method's contract out of the walk of its body -/
theorem kEv_of {l : Launch} {G : kG} {d : Nat} {M : kM} {as : List Value} {f : Nat → va_E} {r : Option Value} {f' : Nat → va_E} {y : MethodName} {cc : ByteArray} {nL : Nat} {ret : Option FieldType} (own : String) (lv : List (Option Value)) (hM : M = (y, cc, nL, ret)) (hy : plainName y.cls = true) (ho : y.cls = own) (hc : kcat as = true) (hn : Nat.ble as.length nL = true) (hlv : kl0 as nL = lv)
    (body : ∀ X : kX, X.2.1 = l → kV (X, own, nL, ret, G, krm d, (0, 0), kQ X G r f') cc f lv [] 0) : kEv l G d M as f r f' := by
  subst hM; subst hlv; subst ho
  refine Met.ofW (cc := cc) (maxL := nL) (ret := ret) hy rfl ?_
  intro p e s m args below meth c s₁ B hml hv
  obtain ⟨rfl, hP, hK, hN, hG, hb⟩ := hv
  rw [lg_entry_eq]
  have hts := atoms_spec (ws := Cond.code y cc nL ret :: wsL_law) B.pre
  have hown : s.vm.findClass y.cls = some m.cls := findClass_of_methodNamed B.named
  exact body (p, l, e, krm d, s, m, as.toArray, below, meth, c) rfl ⟨⟨B.exec, B.bytes, hml, hown, fun w hw => hts w (List.mem_cons_of_mem _ hw)⟩, hK, hN, hG.1, hG.2, hb, B.returns, B.notSynchronized, rfl⟩ s.heap [] _ hP va_S.rf (kLs_entry as (kcat_spec hc) (Nat.le_of_ble_eq_true hn))
section KRET
variable {X : kX} {own : String} {nL : Nat} {ret : Option FieldType} {G : kG} {R : Room} {cc : ByteArray} {f : Nat → va_E} {lv : List (Option Value)} {pc : Nat}
theorem kF.rp {t : State} {H : Heap} (F : kF X cc own nL ret G R) (hP : va_P (kg_D G) vwCl (kwl (kg_ad G) (kg_N G) f) H) {locs : List Loc} (hS : va_S (fun q => kg_b G ≤ q) (kx_s X).heap H locs) (ht : t.heap = H) (hW : (kx_s X).WarmedH t.vm) : kRp G f t :=
  ⟨by rw [ht]; exact hP, va_K.moved hW.alike F.2.1, F.2.2.1.warm hW, ⟨F.2.2.2.1, F.2.2.2.2.1⟩, by rw [ht]; exact Nat.le_trans F.2.2.2.2.2.1 hS.1⟩
theorem kV_iret {v : Int32} (hd : decode cc pc = .ok (.ireturn, 1)) : kV (X, own, nL, some .int, G, R, (0, 0), kQ X G (some (.int v)) f) cc f lv [.int v] pc :=
  fun F H locs ls hP hS hL => W.iret F.1.1 F.1.2.1 F.2.2.2.2.2.2.1 (fun t ht hW => ⟨⟨rfl, F.rp hP hS ht hW⟩, hS.F ht⟩) (fun q hq => hS.2.2 q hq) hd F.2.2.2.2.2.2.2.1
theorem kV_zret {v : Int32} (hd : decode cc pc = .ok (.ireturn, 1)) (hz : v &&& 1 = v) : kV (X, own, nL, some .boolean, G, R, (0, 0), kQ X G (some (.int v)) f) cc f lv [.int v] pc :=
  fun F H locs ls hP hS hL => W.zret F.1.1 F.1.2.1 F.2.2.2.2.2.2.1 (by simp [narrow, hz]) (fun t ht hW => ⟨⟨rfl, F.rp hP hS ht hW⟩, hS.F ht⟩) (fun q hq => hS.2.2 q hq) hd F.2.2.2.2.2.2.2.1
theorem kV_vret (hd : decode cc pc = .ok (.return_, 1)) : kV (X, own, nL, none, G, R, (0, 0), kQ X G none f) cc f lv [] pc :=
  fun F H locs ls hP hS hL => W.vret F.1.1 F.1.2.1 F.2.2.2.2.2.2.1 (fun t ht hW => ⟨⟨rfl, F.rp hP hS ht hW⟩, hS.F ht⟩) (fun q hq => hS.2.2 q hq) hd F.2.2.2.2.2.2.2.1
theorem kV_aret {v : Value} {C : String} (hd : decode cc pc = .ok (.areturn, 1)) (hv : v = .null ∨ ∃ a, v = .ref a) : kV (X, own, nL, some (.object C), G, R, (0, 0), kQ X G (some v) f) cc f lv [v] pc :=
  fun F H locs ls hP hS hL => W.aret F.1.1 F.1.2.1 F.2.2.2.2.2.2.1 (Or.inl ⟨C, rfl⟩) hv (fun t ht hW => ⟨⟨rfl, F.rp hP hS ht hW⟩, hS.F ht⟩) (fun q hq => hS.2.2 q hq) hd F.2.2.2.2.2.2.2.1
end KRET
/-- what the tables say of a method that is called -/
def kMs (M : kM) (n : Nat) : Prop := Cond.code M.1 M.2.1 M.2.2.1 M.2.2.2 ∈ wsL_law ∧ Cond.initialized M.1.cls ∈ wsL_law ∧ (M.1.cls ≠ "java/lang/invoke/MethodHandle" ∧ M.1.cls ≠ "java/lang/invoke/VarHandle" ∧ (parseMethodDescriptor M.1.desc).map (fun d => d.parameters.length) = some n) ∧ M.2.2.1 ≤ 20
def kMv (M : kM) (n ci : Nat) : Prop := kMs M n ∧ Cond.instanceMethod M.1 ∈ wsL_law ∧ Cond.selects M.1.cls M.1 M.1 ∈ wsL_law ∧ (vwCl[ci]?).map (fun q => q.1) = some M.1.cls
def kMt (M : kM) (n : Nat) : Prop := kMs M n ∧ Cond.static M.1 ∈ wsL_law
section KCALL
variable {Y : kY} {cc : ByteArray} {f f' : Nat → va_E} {lv : List (Option Value)} {st : List Value} {pc : Nat} {d : Nat} {M : kM} {r : Option Value} {n ci index : Nat}
theorem kV_run {As : List Value} {X : kX} {H : Heap} {locs : List Loc} {G : kG} {own : String} {nL : Nat} {ret : Option FieldType} {R : Room} {cs : Nat × Nat} {Q : State → Prop} {ls : Array Slot} {stk : List Value} (F : kF X cc own nL ret G R) (hS : va_S (fun q => kg_b G ≤ q) (kx_s X).heap H locs) (hL : kLs ls nL lv)
    (hr : va_Run X.1 X.2.1 X.2.2.1 (kx_R X) (kx_s X) (kx_m X) (kx_a X) (kx_b X) (kx_t X) (kx_c X) H locs cs.1 cs.2 0 0 (F0 (kx_m X) pc ls stk) st (kQc G r f' As.toArray) (fun q => kg_b G ≤ q))
    (kk : kV (X, own, nL, ret, G, R, cs, Q) cc f' lv (r.toList ++ st) (pc + 3)) : kW X cs H locs Q (F0 (kx_m X) pc ls stk) := by
  intro T hT X0
  obtain ⟨v, st₀, t, T', L, h0, X', hL', e1, e2, ⟨⟨hv, hRp⟩, hz, hk⟩, stp⟩ := hr T hT X0
  cases hv
  rw [h0] at hz hk
  have hS' : va_S (fun q => kg_b G ≤ q) (kx_s X).heap T'.heap (locs ++ L) := ⟨Nat.le_trans hS.1 (by rw [e1]; exact hz), fun q h1 h2 => by rw [e1, hk q (Nat.lt_of_lt_of_le h1 hS.1) h2]; exact hS.2.1 q h1 h2, fun q hq => by
      rcases List.mem_append.mp hq with h | h
      · exact hS.2.2 q h
      · exact hL' q h⟩
  obtain ⟨t2, a1, b1⟩ := kk F T'.heap (locs ++ L) ls (by rw [e1]; exact hRp.1) hS' hL T' rfl X'
  exact ⟨t2, stp t2 a1, b1⟩
theorem kV_callV {As stk : List Value} {dd : Nat} {fs : List Value} (pc' : Nat) (hd : decode cc pc = .ok (.invokevirtual index, 3)) (hE : kEv (ky_X Y).2.1 (ky_G Y) d M (.ref (kg_ad (ky_G Y) dd) :: As) f r f') (hM : kMv M n ci) (hlink : Cond.methodLink (ky_own Y) index M.1 ∈ wsL_law) (hN : dd < kg_N (ky_G Y)) (he : f dd = .inr (ci, fs)) (hn : As.length = n) (hst : Nat.ble ((st.map fun v => v.category).sum) 8 = true)
    (hR : d + 1 ≤ (ky_R Y).frames ∧ 40 * (d + 1) ≤ (ky_R Y).locals) (hC : (ky_cs Y).1 ≤ (ky_R Y).cells ∧ (ky_cs Y).2 ≤ (ky_R Y).slots) (hs : stk = As.reverse ++ .ref (kg_ad (ky_G Y) dd) :: st) (hp : pc + 3 = pc') (kk : kV Y cc f' lv (r.toList ++ st) pc') : kV Y cc f lv stk pc :=
  fun F H locs ls hP hS hL => by
    subst hp; subst hs
    obtain ⟨⟨m1, m2, m3, m4⟩, m5, m6, m7⟩ := hM
    obtain ⟨q, hq1, hq2⟩ := Option.map_eq_some_iff.mp m7
    have hRe : kx_R (ky_X Y) = ky_R Y := F.2.2.2.2.2.2.2.2
    have hrf : (krm d).frames + 1 ≤ (kx_R (ky_X Y)).frames ∧ 8 + (M.2.2.1 + 11) + (krm d).locals ≤ (kx_R (ky_X Y)).locals := by
      rw [hRe]; simp only [krm]; omega
    have cw : CallW (kx_R (ky_X Y)) (kx_s (ky_X Y)) (kx_a (ky_X Y)) (ky_own Y) M.1.cls index M.1 M.2.1 M.2.2.1 M.2.2.2 (Cond.code M.1 M.2.1 M.2.2.1 M.2.2.2 :: wsL_law) (krm d) 0 0 n := ⟨callB_of n F.1.2.2.2.2 (wg_good m1) rfl rfl rfl (F.1.2.2.2.2 _ m2) (F.1.2.2.2.2 _ hlink) m3 hrf, F.1.2.2.2.2 _ m5, F.1.2.2.2.2 _ m6⟩
    have hrec := va_recv F.2.1 hP hq1 (he := by rw [kwl_get hN, he])
    rw [hq2] at hrec
    refine kV_run (As := .ref (kg_ad (ky_G Y) dd) :: As) F hS hL (va_runV F.1 hE cw ⟨kRp_blind _ _ _, hrec, fun U hU hW => ⟨rfl, F.rp hP hS hU hW⟩⟩ rfl hn hL.1 rfl (lv_room (Nat.le_of_ble_eq_true hst)) hd ⟨by rw [hRe]; exact hC.1, by rw [hRe]; exact hC.2⟩) kk
theorem kV_callS {As stk : List Value} (pc' : Nat) (hd : decode cc pc = .ok (.invokestatic index, 3)) (hE : kEv (ky_X Y).2.1 (ky_G Y) d M As f r f') (hM : kMt M n) (hlink : Cond.methodLink (ky_own Y) index M.1 ∈ wsL_law) (hn : As.length = n) (hst : Nat.ble ((st.map fun v => v.category).sum) 8 = true)
    (hR : d + 1 ≤ (ky_R Y).frames ∧ 40 * (d + 1) ≤ (ky_R Y).locals) (hC : (ky_cs Y).1 ≤ (ky_R Y).cells ∧ (ky_cs Y).2 ≤ (ky_R Y).slots) (hs : stk = As.reverse ++ st) (hp : pc + 3 = pc') (kk : kV Y cc f' lv (r.toList ++ st) pc') : kV Y cc f lv stk pc :=
  fun F H locs ls hP hS hL => by
    subst hp; subst hs
    obtain ⟨⟨m1, m2, m3, m4⟩, m5⟩ := hM
    have hRe : kx_R (ky_X Y) = ky_R Y := F.2.2.2.2.2.2.2.2
    have hrf : (krm d).frames + 1 ≤ (kx_R (ky_X Y)).frames ∧ 8 + (M.2.2.1 + 11) + (krm d).locals ≤ (kx_R (ky_X Y)).locals := by
      rw [hRe]; simp only [krm]; omega
    have cw : CallB (kx_R (ky_X Y)) (kx_s (ky_X Y)) (kx_a (ky_X Y)) (ky_own Y) index M.1 M.2.1 M.2.2.1 M.2.2.2 (Cond.code M.1 M.2.1 M.2.2.1 M.2.2.2 :: wsL_law) (krm d) 0 0 n := callB_of n F.1.2.2.2.2 (wg_good m1) rfl rfl rfl (F.1.2.2.2.2 _ m2) (F.1.2.2.2.2 _ hlink) m3 hrf
    refine kV_run (As := As) F hS hL (va_runS F.1 hE ⟨cw, F.1.2.2.2.2 _ m5⟩ ⟨kRp_blind _ _ _, fun U hU hW => ⟨rfl, F.rp hP hS hU hW⟩⟩ rfl hn hL.1 rfl (lv_room (Nat.le_of_ble_eq_true hst)) hd ⟨by rw [hRe]; exact hC.1, by rw [hRe]; exact hC.2⟩) kk
theorem kV_callSN {As stk : List Value} {host : String} (pc' : Nat) (hd : decode cc pc = .ok (.invokestatic index, 3)) (hE : kEv (ky_X Y).2.1 (ky_G Y) d M As f r f') (hM : kMt M n) (hlink : ∀ s, kNw s → va_Nw (.methodLinkNest (ky_own Y) index M.1 host) s) (hn : As.length = n) (hst : Nat.ble ((st.map fun v => v.category).sum) 8 = true)
    (hR : d + 1 ≤ (ky_R Y).frames ∧ 40 * (d + 1) ≤ (ky_R Y).locals) (hC : (ky_cs Y).1 ≤ (ky_R Y).cells ∧ (ky_cs Y).2 ≤ (ky_R Y).slots) (hs : stk = As.reverse ++ st) (hp : pc + 3 = pc') (kk : kV Y cc f' lv (r.toList ++ st) pc') : kV Y cc f lv stk pc :=
  fun F H locs ls hP hS hL => by
    subst hp; subst hs
    obtain ⟨⟨m1, m2, m3, m4⟩, m5⟩ := hM
    have hRe : kx_R (ky_X Y) = ky_R Y := F.2.2.2.2.2.2.2.2
    have hrf : (krm d).frames + 1 ≤ (kx_R (ky_X Y)).frames ∧ 8 + (M.2.2.1 + 11) + (krm d).locals ≤ (kx_R (ky_X Y)).locals := by
      rw [hRe]; simp only [krm]; omega
    have cw : va_CN (kx_R (ky_X Y)) (kx_s (ky_X Y)) (kx_a (ky_X Y)) (ky_own Y) index M.1 host M.2.1 M.2.2.1 M.2.2.2 (Cond.code M.1 M.2.1 M.2.2.1 M.2.2.2 :: wsL_law) (krm d) 0 0 n := va_cnB n F.1.2.2.2.2 (wg_good m1) rfl rfl rfl (hlink _ F.2.2.1) (F.1.2.2.2.2 _ m2) m3 hrf
    refine kV_run (As := As) F hS hL (va_runSN F.1 hE ⟨cw, F.1.2.2.2.2 _ m5, trivial⟩ ⟨kRp_blind _ _ _, fun U hU hW => ⟨rfl, F.rp hP hS hU hW⟩⟩ rfl hn hL.1 rfl (lv_room (Nat.le_of_ble_eq_true hst)) hd ⟨by rw [hRe]; exact hC.1, by rw [hRe]; exact hC.2⟩) kk
end KCALL
