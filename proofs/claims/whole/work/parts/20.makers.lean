/-! worlds as lists, newest first: for the makers -/
abbrev kZ : Type := kX × String × Nat × Option FieldType × String × Nat × va_G × List (ClassId × FieldType) × Room × (Nat × Nat) × (State → Prop)
def kFu (X : kX) (cc : ByteArray) (own : String) (nL : Nat) (ret : Option FieldType) (nm : String) (β : Nat) (D : va_G) (tys : List (ClassId × FieldType)) (R : Room) : Prop :=
  CallFix X.1 (kx_m X) (kx_c X) cc nL (kx_s X) (kx_a X) wsL_law own ∧ va_K D vwCl tys (kx_s X) ∧ kNw (kx_s X) ∧ va_AO RX0 (kx_s X) ∧ β ≤ (kx_s X).heap.size ∧ (kx_t X).sig.returnType = ret ∧ (kx_t X).locks = false ∧ kx_R X = R ∧ (kx_t X).name = nm
def kU (Z : kZ) (cc : ByteArray) (ws : va_W) (lv : List (Option Value)) (st : List Value) (pc : Nat) : Prop := match Z with
  | (X, own, nL, ret, nm, β, D, tys, R, cs, Q) => kFu X cc own nL ret nm β D tys R → ∀ (H : Heap) (locs : List Loc) (ls : Array Slot), va_P D vwCl ws H → va_D (fun q => β ≤ q) ws → va_S (fun q => β ≤ q) (kx_s X).heap H locs → kLs ls nL lv → kW X cs H locs Q (F0 (kx_m X) pc ls st)
theorem vP_front {D : va_G} {cl : List vw_C} {ws : va_W} {x : Nat × va_E} {H : Heap} (h : va_P D cl (ws ++ [x]) H) : va_P D cl (x :: ws) H := by
  intro k q hq
  cases k with
  | zero => cases hq; exact h ws.length x (by simp)
  | succ k =>
    have hq : ws[k]? = some q := by simpa using hq
    have hl := (List.getElem?_eq_some_iff.mp hq).1
    exact h k q (by rw [List.getElem?_append_left hl]; exact hq)
theorem vD_front {A : Nat → Prop} {ws : va_W} {x : Nat × va_E} (h : va_D A (ws ++ [x])) : va_D A (x :: ws) := by
  have e : ∀ k q, (x :: ws)[k]? = some q → ∃ j, (ws ++ [x])[j]? = some q ∧ (k = 0 → j = ws.length) ∧ (∀ i, k = i + 1 → j = i ∧ i < ws.length) := by
    intro k q hq
    cases k with
    | zero => cases hq; exact ⟨ws.length, by simp, fun _ => rfl, fun i hi => by omega⟩
    | succ k =>
      have hq : ws[k]? = some q := by simpa using hq
      have hl := (List.getElem?_eq_some_iff.mp hq).1
      exact ⟨k, by rw [List.getElem?_append_left hl]; exact hq, fun h => by omega, fun i hi => ⟨by omega, by omega⟩⟩
  refine ⟨fun i j p q hp hq hpq => ?_, fun k q hq => ?_⟩
  · obtain ⟨i', a1, a2, a3⟩ := e i p hp
    obtain ⟨j', b1, b2, b3⟩ := e j q hq
    have := h.1 i' j' p q a1 b1 hpq
    cases i with
    | zero => cases j with
      | zero => rfl
      | succ j => have := a2 rfl; have := b3 j rfl; omega
    | succ i => cases j with
      | zero => have := b2 rfl; have := a3 i rfl; omega
      | succ j => have := a3 i rfl; have := b3 j rfl; omega
  · obtain ⟨k', a1, -, -⟩ := e k q hq
    exact h.2 k' q a1
section KU
variable {X : kX} {own nm : String} {nL β : Nat} {ret : Option FieldType} {D : va_G} {tys : List (ClassId × FieldType)} {R : Room} {cs : Nat × Nat} {Q : State → Prop} {cc : ByteArray} {ws : va_W} {lv : List (Option Value)} {st : List Value} {pc : Nat}
theorem kU_iconst {n : Int} {v : Int32} (pc' : Nat) (hd : decode cc pc = .ok (.iconst n, 1)) (hv : Int32.ofInt n = v) (hp : pc + 1 = pc') (kk : kU (X, own, nL, ret, nm, β, D, tys, R, cs, Q) cc ws lv (.int v :: st) pc') : kU (X, own, nL, ret, nm, β, D, tys, R, cs, Q) cc ws lv st pc :=
  fun F H locs ls hP hD hS hL => by subst hp; exact lv_iconst F.1.1 F.1.2.1 hd hv (kk F H locs ls hP hD hS hL)
theorem kU_bipush {n : Int} {v : Int32} (pc' : Nat) (hd : decode cc pc = .ok (.bipush n, 2)) (hv : (Int8.ofInt n).toInt32 = v) (hp : pc + 2 = pc') (kk : kU (X, own, nL, ret, nm, β, D, tys, R, cs, Q) cc ws lv (.int v :: st) pc') : kU (X, own, nL, ret, nm, β, D, tys, R, cs, Q) cc ws lv st pc :=
  fun F H locs ls hP hD hS hL => by subst hp; exact lv_bipush F.1.1 F.1.2.1 hd hv (kk F H locs ls hP hD hS hL)
theorem kU_sipush {n : Int} {v : Int32} (pc' : Nat) (hd : decode cc pc = .ok (.sipush n, 3)) (hv : (Int16.ofInt n).toInt32 = v) (hp : pc + 3 = pc') (kk : kU (X, own, nL, ret, nm, β, D, tys, R, cs, Q) cc ws lv (.int v :: st) pc') : kU (X, own, nL, ret, nm, β, D, tys, R, cs, Q) cc ws lv st pc :=
  fun F H locs ls hP hD hS hL => by subst hp; exact lv_sipush F.1.1 F.1.2.1 hd hv (kk F H locs ls hP hD hS hL)
theorem kU_aloadn {k : Fin 4} {x : Nat} (pc' : Nat) (hd : decode cc pc = .ok (.aload_n k, 1)) (hl : lv[(k : Nat)]? = some (some (.ref x))) (hp : pc + 1 = pc') (kk : kU (X, own, nL, ret, nm, β, D, tys, R, cs, Q) cc ws lv (.ref x :: st) pc') : kU (X, own, nL, ret, nm, β, D, tys, R, cs, Q) cc ws lv st pc :=
  fun F H locs ls hP hD hS hL => by subst hp; exact lv_aload_n F.1.1 F.1.2.1 hd rfl (hL.2.2 _ _ hl).1 (kk F H locs ls hP hD hS hL)
theorem kU_dup {v : Value} (pc' : Nat) (hd : decode cc pc = .ok (.dup, 1)) (hv : v.category = 1) (hp : pc + 1 = pc') (kk : kU (X, own, nL, ret, nm, β, D, tys, R, cs, Q) cc ws lv (v :: v :: st) pc') : kU (X, own, nL, ret, nm, β, D, tys, R, cs, Q) cc ws lv (v :: st) pc :=
  fun F H locs ls hP hD hS hL => by subst hp; exact lv_dup F.1.1 F.1.2.1 hd hv (kk F H locs ls hP hD hS hL)
theorem kU_obj {idx x : Nat} (pc' : Nat) (hd : decode cc pc = .ok (.invokespecial idx, 3)) (hlink : Cond.methodLink own idx objectInit ∈ wsL_law) (hst : Nat.ble ((st.map fun v => v.category).sum) 8 = true) (hR : 1 ≤ R.frames ∧ 40 ≤ R.locals) (hp : pc + 3 = pc') (kk : kU (X, own, nL, ret, nm, β, D, tys, R, cs, Q) cc ws lv st pc') : kU (X, own, nL, ret, nm, β, D, tys, R, cs, Q) cc ws lv (.ref x :: st) pc :=
  fun F H locs ls hP hD hS hL => by
    subst hp
    have hRe : kx_R X = R := F.2.2.2.2.2.2.2.1
    have h8 := Nat.le_of_ble_eq_true hst
    exact W.objInit (a := x) F.1.1 F.1.2.1 F.1.2.2.2.1 (F.1.2.2.2.2 _ hlink) (F.1.2.2.2.2 _ (wi_r1 _ (List.mem_of_getElem? (i := 10) rfl))) (F.1.2.2.2.2 _ (wi_r1 _ (List.mem_of_getElem? (i := 11) rfl))) rfl (hL.1.trans F.1.2.2.1.symm) rfl hd (by rw [hRe]; exact hR.1) (by rw [hRe]; have := hR.2; show 2 * 0 + _ + 12 ≤ _; omega) (kk F H locs ls hP hD hS hL)
theorem kU_newI {cI : ClassId} (t0 : Nat) {n : Int32} (N : Nat) (pc' : Nat) (hd : decode cc pc = .ok (.newarray .int, 2)) (ht : tys[t0]? = some (cI, .int)) (hn : ¬ n < 0) (hN : n.toNatClampNeg = N) (hB : Nat.ble (N * 4) 536870912 = true) (hc : cs.1 + 1 ≤ R.cells) (hs : cs.2 + N ≤ R.slots) (hp : pc + 2 = pc') (kk : ∀ q : Nat, kU (X, own, nL, ret, nm, β, D, tys, R, (cs.1 + 1, cs.2 + N), Q) cc ((q, .inl (cI, N, .inl (fun _ => 0))) :: ws) lv (.ref q :: st) pc') : kU (X, own, nL, ret, nm, β, D, tys, R, cs, Q) cc ws lv (.int n :: st) pc :=
  fun F H locs ls hP hD hS hL => by
    subst hp
    have hRe : kx_R X = R := F.2.2.2.2.2.2.2.1
    refine va_newa (atype := .int) (ty := .int) (a0 := (N, .inl (fun _ => 0))) F.1.1 F.1.2.1 (F.1.2.2.2.2 _ (wi_r1 _ (List.mem_of_getElem? (i := 19) rfl))) rfl F.2.1 hP hD hS (fun q hq => Nat.le_trans F.2.2.2.2.1 hq) (fun cA => rfl) hn hN (Nat.le_of_ble_eq_true hB) (by rw [hRe]; exact hc) (by rw [hRe]; exact hs) hd (fun q cA H1 hK1 hP1 hD1 hS1 => ?_)
    have e : cA = cI := Option.some.inj (((hK1.2 tys.length (cA, .int) (by simp)).2).symm.trans ((F.2.1.2 t0 _ ht).2))
    subst e
    exact kk q F H1 locs ls (vP_front hP1) (vD_front hD1) hS1 hL
theorem kU_newZ {cZ : ClassId} (t0 : Nat) {n : Int32} (N : Nat) (pc' : Nat) (hd : decode cc pc = .ok (.newarray .boolean, 2)) (ht : tys[t0]? = some (cZ, .boolean)) (hn : ¬ n < 0) (hN : n.toNatClampNeg = N) (hB : Nat.ble (N * 4) 536870912 = true) (hc : cs.1 + 1 ≤ R.cells) (hs : cs.2 + N ≤ R.slots) (hp : pc + 2 = pc') (kk : ∀ q : Nat, kU (X, own, nL, ret, nm, β, D, tys, R, (cs.1 + 1, cs.2 + N), Q) cc ((q, .inl (cZ, N, .inl (fun _ => 0))) :: ws) lv (.ref q :: st) pc') : kU (X, own, nL, ret, nm, β, D, tys, R, cs, Q) cc ws lv (.int n :: st) pc :=
  fun F H locs ls hP hD hS hL => by
    subst hp
    have hRe : kx_R X = R := F.2.2.2.2.2.2.2.1
    have hB' := Nat.le_of_ble_eq_true hB
    have hcb : componentBytes .boolean ≤ 4 := by decide
    refine va_newa (atype := .boolean) (ty := .boolean) (a0 := (N, .inl (fun _ => 0))) F.1.1 F.1.2.1 (F.1.2.2.2.2 _ (wi_r3 _ (List.mem_of_getElem? (i := 11) rfl))) rfl F.2.1 hP hD hS (fun q hq => Nat.le_trans F.2.2.2.2.1 hq) (fun cA => rfl) hn hN (Nat.le_trans (Nat.mul_le_mul_left N hcb) hB') (by rw [hRe]; exact hc) (by rw [hRe]; exact hs) hd (fun q cA H1 hK1 hP1 hD1 hS1 => ?_)
    have e : cA = cZ := Option.some.inj (((hK1.2 tys.length (cA, .boolean) (by simp)).2).symm.trans ((F.2.1.2 t0 _ ht).2))
    subst e
    exact kk q F H1 locs ls (vP_front hP1) (vD_front hD1) hS1 hL
theorem kU_newF {index : Nat} {n : Int32} (N : Nat) (pc' : Nat) (hd : decode cc pc = .ok (.anewarray index, 3)) (hlink : Cond.classLink own index RX0 ∈ wsL_law) (hn : ¬ n < 0) (hN : n.toNatClampNeg = N) (hB : Nat.ble (N * 4) 536870912 = true) (hc : cs.1 + 1 ≤ R.cells) (hs : cs.2 + N ≤ R.slots) (hp : pc + 3 = pc') (kk : ∀ (q : Nat) (cF : ClassId), kU (X, own, nL, ret, nm, β, D, tys ++ [(cF, .object RX0)], R, (cs.1 + 1, cs.2 + N), Q) cc ((q, .inl (cF, N, .inr (.inr (.inr (.inr (fun _ => none)))))) :: ws) lv (.ref q :: st) pc') : kU (X, own, nL, ret, nm, β, D, tys, R, cs, Q) cc ws lv (.int n :: st) pc :=
  fun F H locs ls hP hD hS hL => by
    subst hp
    have hRe : kx_R X = R := F.2.2.2.2.2.2.2.1
    refine va_newq F.1.1 F.1.2.1 F.1.2.2.2.1 (F.1.2.2.2.2 _ hlink) F.2.2.2.1 F.2.1 hP hD hS (fun q hq => Nat.le_trans F.2.2.2.2.1 hq) hn hN (Nat.le_of_ble_eq_true hB) (by rw [hRe]; exact hc) (by rw [hRe]; exact hs) hd (fun q cA H1 hK1 hP1 hD1 hS1 => ?_)
    exact kk q cA ⟨F.1, hK1, F.2.2⟩ H1 locs ls (vP_front hP1) (vD_front hD1) hS1 hL
theorem kU_new {C : String} {T : u_T} {m ci index : Nat} {ty : Nat → FieldType} (fs : List Value) (pc' : Nat) (hd : decode cc pc = .ok (.new index, 3)) (hin : ∀ w ∈ u_ws C T m, w ∈ wsL_law) (hty : ∀ k, k < m → parseFieldDescriptor (T k).2.2.1 = some (ty k)) (hcl : Cond.classLink own index C ∈ wsL_law) (hinst : Cond.instantiable C m ∈ wsL_law) (hini : Cond.initialized C ∈ wsL_law) (hv : vwCl[ci]? = some (C, T, m)) (hfs : ∀ j, j < m → defaultValue (ty j) = vp_V fs j) (hc : cs.1 + 1 ≤ R.cells) (hs : cs.2 + m ≤ R.slots) (hp : pc + 3 = pc') (kk : ∀ q : Nat, kU (X, own, nL, ret, nm, β, D, tys, R, (cs.1 + 1, cs.2 + m), Q) cc ((q, .inr (ci, fs)) :: ws) lv (.ref q :: st) pc') : kU (X, own, nL, ret, nm, β, D, tys, R, cs, Q) cc ws lv st pc :=
  fun F H locs ls hP hD hS hL => by
    subst hp
    have hRe : kx_R X = R := F.2.2.2.2.2.2.2.1
    refine va_new F.1.1 F.1.2.1 F.1.2.2.2.2 hin ty hty F.1.2.2.2.1 (F.1.2.2.2.2 _ hcl) (F.1.2.2.2.2 _ hinst) (F.1.2.2.2.2 _ hini) F.2.1 hP hD hS (fun q hq => Nat.le_trans F.2.2.2.2.1 hq) hv hfs (by rw [hRe]; exact hc) (by rw [hRe]; exact hs) hd (fun q H1 hP1 hD1 hS1 => ?_)
    exact kk q F H1 locs ls (vP_front hP1) (vD_front hD1) hS1 hL
theorem kU_put {C : String} {T : u_T} {m ci index : Nat} (k q0 : Nat) {ty0 : Nat → FieldType} {fs : List Value} {v : Value} {x : Nat} (ws' : va_W) (pc' : Nat) (hd : decode cc pc = .ok (.putfield index, 3)) (hin : ∀ w ∈ u_ws C T m, w ∈ wsL_law) (hty : ∀ k, k < m → parseFieldDescriptor (T k).2.2.1 = some (ty0 k)) (hnm : ∀ a, a < m → ∀ b, b < m → a ≠ b → (T a).2.1 ≠ (T b).2.1) (hv : vwCl[ci]? = some (C, T, m)) (hk : Nat.blt k m = true) (hlink : Cond.fieldLink own index (T k).1 (T k).2.1 (T k).2.2.1 ∈ wsL_law) (hfin : (T k).2.2.2 = false) (hn : narrow (ty0 k) v = v) (hfit : fits (ty0 k) v = true) (he : ws[q0]? = some (x, .inr (ci, fs))) (hl : Nat.blt k fs.length = true) (hw : ws.set q0 (x, .inr (ci, fs.set k v)) = ws') (hp : pc + 3 = pc') (kk : kU (X, own, nL, ret, nm, β, D, tys, R, cs, Q) cc ws' lv st pc') : kU (X, own, nL, ret, nm, β, D, tys, R, cs, Q) cc ws lv (v :: .ref x :: st) pc :=
  fun F H locs ls hP hD hS hL => by
    subst hp; subst hw
    exact va_put F.1.1 F.1.2.1 F.1.2.2.2.2 hin ty0 hty hnm F.1.2.2.2.1 F.2.1 hP hD hS q0 he hv k (Nat.le_of_ble_eq_true hk) (F.1.2.2.2.2 _ hlink) (fun _ h => h) hfin (hty k (Nat.le_of_ble_eq_true hk)) hn hfit (Nat.le_of_ble_eq_true hl) hd (fun H1 locs1 hP1 hD1 hS1 => kk F H1 locs1 ls hP1 hD1 hS1 hL)
theorem kU_putF {C : String} {T : u_T} {m ci index : Nat} (k q0 : Nat) {ty0 : Nat → FieldType} {fs : List Value} {v : Value} {x : Nat} (ws' : va_W) (pc' : Nat) (hd : decode cc pc = .ok (.putfield index, 3)) (hin : ∀ w ∈ u_ws C T m, w ∈ wsL_law) (hty : ∀ k, k < m → parseFieldDescriptor (T k).2.2.1 = some (ty0 k)) (hnm : ∀ a, a < m → ∀ b, b < m → a ≠ b → (T a).2.1 ≠ (T b).2.1) (hv : vwCl[ci]? = some (C, T, m)) (hk : Nat.blt k m = true) (hlink : Cond.fieldLink own index (T k).1 (T k).2.1 (T k).2.2.1 ∈ wsL_law) (hfin : (T k).2.2.2 = true) (hdecl : (T k).1 = own) (hn : narrow (ty0 k) v = v) (hfit : fits (ty0 k) v = true) (he : ws[q0]? = some (x, .inr (ci, fs))) (hl : Nat.blt k fs.length = true) (hw : ws.set q0 (x, .inr (ci, fs.set k v)) = ws') (hp : pc + 3 = pc') (kk : kU (X, own, nL, ret, "<init>", β, D, tys, R, cs, Q) cc ws' lv st pc') : kU (X, own, nL, ret, "<init>", β, D, tys, R, cs, Q) cc ws lv (v :: .ref x :: st) pc :=
  fun F H locs ls hP hD hS hL => by
    subst hp; subst hw
    exact va_putF F.1.1 F.1.2.1 F.1.2.2.2.2 hin ty0 hty hnm F.1.2.2.2.1 F.2.1 hP hD hS q0 he hv k (Nat.le_of_ble_eq_true hk) (F.1.2.2.2.2 _ hlink) (fun _ h => h) hfin F.2.2.2.2.2.2.2.2 hdecl (hty k (Nat.le_of_ble_eq_true hk)) hn hfit (Nat.le_of_ble_eq_true hl) hd (fun H1 locs1 hP1 hD1 hS1 => kk F H1 locs1 ls hP1 hD1 hS1 hL)
theorem kU_get {C : String} {T : u_T} {m ci index : Nat} (k q0 : Nat) {fs : List Value} {v : Value} {x : Nat} (pc' : Nat) (hd : decode cc pc = .ok (.getfield index, 3)) (hin : ∀ w ∈ u_ws C T m, w ∈ wsL_law) (hv : vwCl[ci]? = some (C, T, m)) (hk : Nat.blt k m = true) (hlink : Cond.fieldLink own index (T k).1 (T k).2.1 (T k).2.2.1 ∈ wsL_law) (he : ws[q0]? = some (x, .inr (ci, fs))) (hf : fs[k]? = some v) (hp : pc + 3 = pc') (kk : kU (X, own, nL, ret, nm, β, D, tys, R, cs, Q) cc ws lv (v :: st) pc') : kU (X, own, nL, ret, nm, β, D, tys, R, cs, Q) cc ws lv (.ref x :: st) pc :=
  fun F H locs ls hP hD hS hL => by
    subst hp
    exact va_get F.1.1 F.1.2.1 F.1.2.2.2.2 hin F.1.2.2.2.1 F.2.1 hP q0 he hv k (Nat.le_of_ble_eq_true hk) (F.1.2.2.2.2 _ hlink) (fun _ h => h) hf hd (kk F H locs ls hP hD hS hL)
end KU
def kRw (β : Nat) (D : va_G) (tys : List (ClassId × FieldType)) (ws : va_W) (U : State) : Prop := va_P D vwCl ws U.heap ∧ va_D (fun q => β ≤ q) ws ∧ va_K D vwCl tys U ∧ kNw U ∧ va_AO RX0 U ∧ β ≤ U.heap.size
def kcr (d mc ms : Nat) : Room := { frames := d, cells := mc, slots := ms, locals := 40 * d }
def kQk (β : Nat) (D : va_G) (r : Option Value) (post : List (ClassId × FieldType) → va_W → Prop) : Array Value → State → Outcome → State → Prop := fun _ st o t => (o = .returned r ∧ ∃ tys ws, post tys ws ∧ kRw β D tys ws t) ∧ va_F (fun q => β ≤ q) st t
def kCt (l : Launch) (β : Nat) (D : va_G) (tys : List (ClassId × FieldType)) (d mc ms : Nat) (M : kM) (as : List Value) (ws : va_W) (r : Option Value) (post : List (ClassId × FieldType) → va_W → Prop) : Prop :=
  Met l M.1 (Cond.code M.1 M.2.1 M.2.2.1 M.2.2.2 :: wsL_law) (kcr d mc ms) (va_Pc as (kRw β D tys ws)) (kQk β D r post) mc ms (fun q => β ≤ q)
theorem kRw_blind (β : Nat) (D : va_G) (tys : List (ClassId × FieldType)) (ws : va_W) (as : List Value) : FrameBlind (va_Pc as (kRw β D tys ws)) := fun a U g mk q => by
  obtain ⟨q0, qP, qD, qK, qN, qA, qb⟩ := q
  exact ⟨q0, qP, qD, va_K.moved (u := U) (U := U.calling g mk a) (Vm.Alike.refl U.vm) qK, qN.same rfl, va_AO.moved (u := U) (U := U.calling g mk a) (Vm.Alike.refl U.vm) qA, qb⟩
theorem kFu.rw {X : kX} {cc : ByteArray} {own nm : String} {nL β : Nat} {ret : Option FieldType} {D : va_G} {tys : List (ClassId × FieldType)} {R : Room} {ws : va_W} {t : State} {H : Heap} (F : kFu X cc own nL ret nm β D tys R) (hP : va_P D vwCl ws H) (hD : va_D (fun q => β ≤ q) ws) {locs : List Loc} (hS : va_S (fun q => β ≤ q) (kx_s X).heap H locs) (ht : t.heap = H) (hW : (kx_s X).WarmedH t.vm) : kRw β D tys ws t :=
  ⟨by rw [ht]; exact hP, hD, va_K.moved hW.alike F.2.1, F.2.2.1.warm hW, va_AO.moved hW.alike F.2.2.2.1, by rw [ht]; exact Nat.le_trans F.2.2.2.2.1 hS.1⟩
theorem kCt_of {l : Launch} {β : Nat} {D : va_G} {tys : List (ClassId × FieldType)} {d mc ms : Nat} {M : kM} {as : List Value} {ws : va_W} {r : Option Value} {post : List (ClassId × FieldType) → va_W → Prop} {y : MethodName} {cc : ByteArray} {nL : Nat} {ret : Option FieldType} (own : String) (lv : List (Option Value)) (hM : M = (y, cc, nL, ret)) (hy : plainName y.cls = true) (ho : y.cls = own) (hc : kcat as = true) (hn : Nat.ble as.length nL = true) (hlv : kl0 as nL = lv)
    (body : ∀ X : kX, X.2.1 = l → kU (X, own, nL, ret, y.name, β, D, tys, kcr d mc ms, (0, 0), MQ (kx_b X) (kQk β D r post) (kx_a X) (kx_s X) mc ms (fun q => β ≤ q)) cc ws lv [] 0) : kCt l β D tys d mc ms M as ws r post := by
  subst hM; subst hlv; subst ho
  refine Met.ofW (cc := cc) (maxL := nL) (ret := ret) hy rfl ?_
  intro p e s m args below meth c s₁ B hml hv
  obtain ⟨rfl, hP, hD, hK, hN, hA, hb⟩ := hv
  rw [lg_entry_eq]
  have hts := atoms_spec (ws := Cond.code y cc nL ret :: wsL_law) B.pre
  have hown : s.vm.findClass y.cls = some m.cls := findClass_of_methodNamed B.named
  exact body (p, l, e, kcr d mc ms, s, m, as.toArray, below, meth, c) rfl ⟨⟨B.exec, B.bytes, hml, hown, fun w hw => hts w (List.mem_cons_of_mem _ hw)⟩, hK, hN, hA, hb, B.returns, B.notSynchronized, rfl, (name_of_methodNamed B.named B.method).1⟩ s.heap [] _ hP hD va_S.rf (kLs_entry as (kcat_spec hc) (Nat.le_of_ble_eq_true hn))
section KU2
variable {X : kX} {own nm : String} {nL β : Nat} {ret : Option FieldType} {D : va_G} {tys : List (ClassId × FieldType)} {R : Room} {cs : Nat × Nat} {Q : State → Prop} {cc : ByteArray} {ws : va_W} {lv : List (Option Value)} {st : List Value} {pc : Nat} {post : List (ClassId × FieldType) → va_W → Prop} {mc ms : Nat}
theorem kU_vret (hd : decode cc pc = .ok (.return_, 1)) (hpost : post tys ws) : kU (X, own, nL, none, nm, β, D, tys, R, (mc, ms), MQ (kx_b X) (kQk β D none post) (kx_a X) (kx_s X) mc ms (fun q => β ≤ q)) cc ws lv [] pc :=
  fun F H locs ls hP hD hS hL => W.vret F.1.1 F.1.2.1 F.2.2.2.2.2.1 (fun t ht hW => ⟨⟨rfl, tys, ws, hpost, F.rw hP hD hS ht hW⟩, hS.F ht⟩) (fun q hq => hS.2.2 q hq) hd F.2.2.2.2.2.2.1
theorem kU_iret {v : Int32} (hd : decode cc pc = .ok (.ireturn, 1)) (hpost : post tys ws) : kU (X, own, nL, some .int, nm, β, D, tys, R, (mc, ms), MQ (kx_b X) (kQk β D (some (.int v)) post) (kx_a X) (kx_s X) mc ms (fun q => β ≤ q)) cc ws lv [.int v] pc :=
  fun F H locs ls hP hD hS hL => W.iret F.1.1 F.1.2.1 F.2.2.2.2.2.1 (fun t ht hW => ⟨⟨rfl, tys, ws, hpost, F.rw hP hD hS ht hW⟩, hS.F ht⟩) (fun q hq => hS.2.2 q hq) hd F.2.2.2.2.2.2.1
theorem kU_run {r : Option Value} {as : Array Value} {stk : List Value} {H : Heap} {locs : List Loc} {ls : Array Slot} (F : kFu X cc own nL ret nm β D tys R) (hS : va_S (fun q => β ≤ q) (kx_s X).heap H locs) (hL : kLs ls nL lv)
    (hr : va_Run X.1 X.2.1 X.2.2.1 (kx_R X) (kx_s X) (kx_m X) (kx_a X) (kx_b X) (kx_t X) (kx_c X) H locs cs.1 cs.2 mc ms (F0 (kx_m X) pc ls stk) st (kQk β D r post as) (fun q => β ≤ q))
    (kk : ∀ (tys' : List (ClassId × FieldType)) (ws' : va_W), post tys' ws' → kU (X, own, nL, ret, nm, β, D, tys', R, (cs.1 + mc, cs.2 + ms), Q) cc ws' lv (r.toList ++ st) (pc + 3)) : kW X cs H locs Q (F0 (kx_m X) pc ls stk) := by
  intro T hT X0
  obtain ⟨v, st₀, t, T', L, h0, X', hL', e1, e2, ⟨⟨hv, tys', ws', hpost, hRp⟩, hz, hk⟩, stp⟩ := hr T hT X0
  cases hv
  rw [h0] at hz hk
  have hS' : va_S (fun q => β ≤ q) (kx_s X).heap T'.heap (locs ++ L) := ⟨Nat.le_trans hS.1 (by rw [e1]; exact hz), fun q h1 h2 => by rw [e1, hk q (Nat.lt_of_lt_of_le h1 hS.1) h2]; exact hS.2.1 q h1 h2, fun q hq => by
      rcases List.mem_append.mp hq with h | h
      · exact hS.2.2 q h
      · exact hL' q h⟩
  have hvm : (kx_s X).vm.Alike t.vm := by rw [← e2]; exact X'.warmed.alike
  obtain ⟨t2, a1, b1⟩ := kk tys' ws' hpost ⟨F.1, va_K.moved hvm.symm hRp.2.2.1, F.2.2⟩ T'.heap (locs ++ L) ls (by rw [e1]; exact hRp.1) hRp.2.1 hS' hL T' rfl X'
  exact ⟨t2, stp t2 a1, b1⟩
theorem kU_callI {M : kM} {d index x : Nat} (pc' : Nat) (hd : decode cc pc = .ok (.invokespecial index, 3)) (hE : kCt X.2.1 β D tys d mc ms M [.ref x] ws none post) (hM : kMs M 0) (hnm : M.1.name = "<init>") (hret : M.2.2.2 = none) (hin : Cond.instanceMethod M.1 ∈ wsL_law) (hlink : Cond.methodLink own index M.1 ∈ wsL_law) (hst : Nat.ble ((st.map fun v => v.category).sum) 8 = true) (hR : d + 1 ≤ R.frames ∧ 40 * (d + 1) ≤ R.locals) (hC : cs.1 + mc ≤ R.cells ∧ cs.2 + ms ≤ R.slots) (hp : pc + 3 = pc')
    (kk : ∀ (tys' : List (ClassId × FieldType)) (ws' : va_W), post tys' ws' → kU (X, own, nL, ret, nm, β, D, tys', R, (cs.1 + mc, cs.2 + ms), Q) cc ws' lv st pc') : kU (X, own, nL, ret, nm, β, D, tys, R, cs, Q) cc ws lv (.ref x :: st) pc :=
  fun F H locs ls hP hD hS hL => by
    subst hp
    obtain ⟨y, mb, mn, mr⟩ := M
    dsimp only at hret hnm hM hE hin hlink
    subst hret
    obtain ⟨m1, m2, m3, m4⟩ := hM
    dsimp only at m1 m2 m3 m4
    have hRe : kx_R X = R := F.2.2.2.2.2.2.2.1
    have hrf : (kcr d mc ms).frames + 1 ≤ (kx_R X).frames ∧ 8 + (mn + 11) + (kcr d mc ms).locals ≤ (kx_R X).locals := by
      rw [hRe]; simp only [kcr]; omega
    have cw := cwI (own := own) (index := index) 0 F.1.2.2.2.2 (wg_good m1) rfl (rfl : (kcr d mc ms).cells = mc) (rfl : (kcr d mc ms).slots = ms) (F.1.2.2.2.2 _ m2) (F.1.2.2.2.2 _ hlink) (F.1.2.2.2.2 _ hin) hnm m3 hrf
    exact kU_run F hS hL (va_runI (As := []) F.1 hE cw ⟨kRw_blind _ _ _ _ _, fun U hU hW => ⟨rfl, F.rw hP hD hS hU hW⟩⟩ rfl rfl hL.1 rfl (lv_room (Nat.le_of_ble_eq_true hst)) hd ⟨by rw [hRe]; exact hC.1, by rw [hRe]; exact hC.2⟩) kk
theorem kU_callIN {M : kM} {d index x : Nat} {host : String} (pc' : Nat) (hd : decode cc pc = .ok (.invokespecial index, 3)) (hE : kCt X.2.1 β D tys d mc ms M [.ref x] ws none post) (hM : kMs M 0) (hnm : M.1.name = "<init>") (hret : M.2.2.2 = none) (hin : Cond.instanceMethod M.1 ∈ wsL_law) (hlink : ∀ s, kNw s → va_Nw (.methodLinkNest own index M.1 host) s) (hst : Nat.ble ((st.map fun v => v.category).sum) 8 = true) (hR : d + 1 ≤ R.frames ∧ 40 * (d + 1) ≤ R.locals) (hC : cs.1 + mc ≤ R.cells ∧ cs.2 + ms ≤ R.slots) (hp : pc + 3 = pc')
    (kk : ∀ (tys' : List (ClassId × FieldType)) (ws' : va_W), post tys' ws' → kU (X, own, nL, ret, nm, β, D, tys', R, (cs.1 + mc, cs.2 + ms), Q) cc ws' lv st pc') : kU (X, own, nL, ret, nm, β, D, tys, R, cs, Q) cc ws lv (.ref x :: st) pc :=
  fun F H locs ls hP hD hS hL => by
    subst hp
    obtain ⟨y, mb, mn, mr⟩ := M
    dsimp only at hret hnm hM hE hin hlink
    subst hret
    obtain ⟨m1, m2, m3, m4⟩ := hM
    dsimp only at m1 m2 m3 m4
    have hRe : kx_R X = R := F.2.2.2.2.2.2.2.1
    have hrf : (kcr d mc ms).frames + 1 ≤ (kx_R X).frames ∧ 8 + (mn + 11) + (kcr d mc ms).locals ≤ (kx_R X).locals := by
      rw [hRe]; simp only [kcr]; omega
    have cw := va_cnB (R := kx_R X) (own := own) (index := index) (host := host) 0 F.1.2.2.2.2 (wg_good m1) rfl (rfl : (kcr d mc ms).cells = mc) (rfl : (kcr d mc ms).slots = ms) (hlink _ F.2.2.1) (F.1.2.2.2.2 _ m2) m3 hrf
    exact kU_run F hS hL (va_runIN (As := []) F.1 hE ⟨cw, hnm, F.1.2.2.2.2 _ hin⟩ ⟨kRw_blind _ _ _ _ _, fun U hU hW => ⟨rfl, F.rw hP hD hS hU hW⟩⟩ rfl rfl hL.1 rfl (lv_room (Nat.le_of_ble_eq_true hst)) hd ⟨by rw [hRe]; exact hC.1, by rw [hRe]; exact hC.2⟩) kk
end KU2
/-- a list of cells as a world by places -/
def kla (ws : va_W) : Nat → Nat := fun d => (ws.getD d (0, .inr (0, []))).1
def klf (ws : va_W) : Nat → va_E := fun d => (ws.getD d (0, .inr (0, []))).2
theorem kwl_list (ws : va_W) : kwl (kla ws) ws.length (klf ws) = ws := by
  apply List.ext_getElem?
  intro i
  by_cases h : i < ws.length
  · rw [kwl_get h]
    simp [kla, klf, List.getElem?_eq_getElem h]
  · rw [List.getElem?_eq_none (by simp [kwl]; omega), List.getElem?_eq_none (by omega)]
theorem kla_D {A : Nat → Prop} {ws : va_W} (h : va_D A ws) : (∀ i j, i < ws.length → j < ws.length → kla ws i = kla ws j → i = j) ∧ ∀ d, d < ws.length → A (kla ws d) := by
  have e : ∀ d, d < ws.length → ws[d]? = some (kla ws d, klf ws d) := fun d hd => by
    have := kwl_get (ad := kla ws) (f := klf ws) hd
    rw [kwl_list] at this
    exact this
  exact ⟨fun i j hi hj hij => h.1 i j _ _ (e i hi) (e j hj) hij, fun d hd => h.2 d _ (e d hd)⟩
section KU3
variable {X : kX} {own nm : String} {nL β : Nat} {ret : Option FieldType} {D : va_G} {cI cZ cF : ClassId} {R : Room} {cs : Nat × Nat} {Q : State → Prop} {cc : ByteArray} {ws : va_W} {lv : List (Option Value)} {st : List Value} {pc : Nat}
theorem kU_fill {index x len dd : Nat} {v : Int32} {g : Nat → Int32} (ws' : va_W) (pc' : Nat) (hd : decode cc pc = .ok (.invokestatic index, 3)) (hlink : Cond.methodLink own index yJ7_fill_53178 ∈ wsL_law) (he : ws[dd]? = some (x, .inl (cI, len, .inl g))) (hlen : len < 2 ^ 31) (hst : Nat.ble ((st.map fun v => v.category).sum) 8 = true) (hR : 1 ≤ R.frames ∧ 40 ≤ R.locals) (hC : cs.1 ≤ R.cells ∧ cs.2 ≤ R.slots) (hw : ws.set dd (x, .inl (cI, len, .inl (kfill len v g))) = ws') (hp : pc + 3 = pc')
    (kk : kU (X, own, nL, ret, nm, β, D, [(cI, .int), (cZ, .boolean), (cF, .object RX0)], R, cs, Q) cc ws' lv st pc') : kU (X, own, nL, ret, nm, β, D, [(cI, .int), (cZ, .boolean), (cF, .object RX0)], R, cs, Q) cc ws lv (.int v :: .ref x :: st) pc :=
  fun F H locs ls hP hD hS hL => by
    have hdl := (List.getElem?_eq_some_iff.mp he).1
    have hax : kla ws dd = x := by simp [kla, List.getD_eq_getElem?_getD, he]
    have hfx : klf ws dd = .inl (cI, len, .inl g) := by simp [klf, List.getD_eq_getElem?_getD, he]
    have hRe : kx_R X = R := F.2.2.2.2.2.2.2.1
    have hE := fill_ev (l := X.2.1) (G := (β, kla ws, ws.length, D, cI, cZ, cF)) 0 (v := v) hlen hdl hfx
    have key : kV (X, own, nL, ret, (β, kla ws, ws.length, D, cI, cZ, cF), R, cs, Q) cc (klf ws) lv (.int v :: .ref (kla ws dd) :: st) pc := by
      refine kV_callS (Y := (X, own, nL, ret, (β, kla ws, ws.length, D, cI, cZ, cF), R, cs, Q)) (As := [.ref (kla ws dd), .int v]) (st := st) pc' hd hE kmtJ7_fill_53178 hlink rfl hst hR hC rfl hp ?_
      intro F' H' locs' ls' hP' hS' hL'
      have e : kwl (kla ws) ws.length (va_up (klf ws) dd (.inl (cI, len, .inl (kfill len v g)))) = ws' := by
        rw [← hw, ← hax, ← kwl_set, kwl_list]
      have hP' : va_P D vwCl ws' H' := by
        have hP' : va_P D vwCl (kwl (kla ws) ws.length (va_up (klf ws) dd (.inl (cI, len, .inl (kfill len v g))))) H' := hP'
        rw [e] at hP'
        exact hP'
      have hD' : va_D (fun q => β ≤ q) ws' := by rw [← hw]; exact hD.set he
      exact kk F H' locs' ls' hP' hD' hS' hL'
    have hG := kla_D hD
    rw [hax] at key
    refine key ⟨F.1, F.2.1, F.2.2.1, hG.1, hG.2, F.2.2.2.2.1, F.2.2.2.2.2.1, F.2.2.2.2.2.2.1, hRe⟩ H locs ls ?_ hS hL
    show va_P D vwCl (kwl (kla ws) ws.length (klf ws)) H
    rw [kwl_list]
    exact hP
end KU3
