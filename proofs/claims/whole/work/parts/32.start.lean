/-! the start: both objects made, the world in its typed form -/
def kS0 : kS := fun o => match o with
  | 0 => (fun k => match k with | 11 => -1 | 12 => -1 | 13 => -1 | _ => 0, fun _ _ => 0)
  | 2 => (fun k => match k with | 7 => -1 | _ => 0, fun _ _ => 0)
  | 4 => (fun _ => 0, fun k => match k with | 1 => kfill 150 (-1) (fun _ => 0) | _ => fun _ => 0)
  | 5 => (fun k => match k with | 29 => -1 | 43 => -1 | _ => 0, fun _ _ => 0)
  | _ => (fun _ => 0, fun _ _ => 0)
theorem kU_ofV {X : kX} {own nm : String} {nL β : Nat} {ret : Option FieldType} {D : va_G} {cI cZ cF : ClassId} {R : Room} {cs : Nat × Nat} {Q : State → Prop} {cc : ByteArray} {ad : Nat → Nat} {N : Nat} {f : Nat → va_E} {lv : List (Option Value)} {st : List Value} {pc : Nat} (kk : kV (X, own, nL, ret, (β, ad, N, D, cI, cZ, cF), R, cs, Q) cc f lv st pc) : kU (X, own, nL, ret, nm, β, D, [(cI, .int), (cZ, .boolean), (cF, .object RX0)], R, cs, Q) cc (kwl ad N f) lv st pc :=
  fun F H locs ls hP hD hS hL => kk ⟨F.1, F.2.1, F.2.2.1, (kD_inj hD).1, (kD_inj hD).2, F.2.2.2.2.1, F.2.2.2.2.2.1, F.2.2.2.2.2.2.1, F.2.2.2.2.2.2.2.1⟩ H locs ls hP hS hL
def lw_Z (below : List Frame) (a : Array Value) (s : State) : State → Prop := fun t => ∃ o, t.status = .running ∧ Ended t below o ∧ (o = .returned (some (.int 1)) ∧ Framed s o t [] 600000 7302250)
theorem lw_ret {p : Program} {l : Launch} {e : Env} {s : State} {m : MethodId} {below : List Frame} {meth : Method} {c : Code} {b : Nat} (hx : p.tables.exec = Jvm.exec) (hb : c.code = code) (hr : meth.sig.returnType = ret) (hlocks : meth.locks = false) {pc : Nat} {H : Heap} {ls : Array Slot} (hdg : decode code pc = .ok (.ireturn, 1)) : W p l e room_1 s m #[Value.ref b] below meth c H [] 600000 7302250 (lw_Z below #[Value.ref b] s) (F0 m pc ls [.int 1]) := by
  intro T hT X
  obtain ⟨fs, hret, hrun, hended, hW, hframe⟩ := X.leave (v := some (.int 1)) (hlocks := hlocks) (fun h => by rw [hr] at h; cases h)
  have hmeth' : T.vm.method? m = some meth := X.method'
  refine ⟨T.setFrames fs, ?_, .returned (some (.int 1)), hrun, hended, rfl, ⟨_, rfl⟩, hW, hframe⟩
  jvm_step X.here [X.here.top, hx, hb, hdg, hmeth', hr, ret, narrow_b1]
  (try refine ⟨rfl, ?_⟩); (try refine ⟨rfl, ?_⟩)
  first | (intro acts; rw [hret _ acts rfl rfl rfl]) | rw [hret _ _ rfl rfl rfl]
  exact Steps.refl _
def kad0 (x0 m0 : Nat) (p qr qd qp qh q6 : Nat → Nat) : Nat → Nat := fun d => ([x0, (p 1), (p 2), (qr 1), (qr 2), (qr 3), (qr 4), (qr 5), (qr 6), (p 3), (p 4), (p 5), (qd 1), (qd 2), (qd 3), (qd 4), (qd 5), (qd 6), (p 6), (qp 1), (qp 2), (p 7), (qh 1), (qh 2), m0, (q6 1), (q6 2), (q6 3), (q6 4), (q6 5), (q6 6), (q6 7), (q6 8), (q6 9), (q6 10), (q6 11), (q6 12), (q6 13), (q6 14), (q6 15), (q6 16), (q6 17), (q6 18), (q6 19), (q6 20), (q6 21), (q6 22), (q6 23), (q6 24), (q6 25), (q6 26), (q6 27), (q6 28), (q6 29), (q6 30)]).getD d 0
def kws0 (cI cZ cF : ClassId) (x0 m0 : Nat) (p qr qd qp qh q6 : Nat → Nat) : va_W := ((q6 30), .inl (cI, 3125, .inl (fun _ => 0))) :: ((q6 29), .inl (cI, 9, .inl (fun _ => 0))) :: ((q6 28), .inl (cZ, 9, .inl (fun _ => 0))) :: ((q6 27), .inl (cI, 9, .inl (fun _ => 0))) :: ((q6 26), .inl (cI, 9, .inl (fun _ => 0))) :: ((q6 25), .inl (cI, 9, .inl (fun _ => 0))) :: ((q6 24), .inl (cI, 8, .inl (fun _ => 0))) :: ((q6 23), .inl (cZ, 150, .inl (fun _ => 0))) :: ((q6 22), .inl (cI, 150, .inl (fun _ => 0))) :: ((q6 21), .inl (cI, 3, .inl (fun _ => 0))) :: ((q6 20), .inl (cI, 84, .inl (fun _ => 0))) :: ((q6 19), .inl (cI, 84, .inl (fun _ => 0))) :: ((q6 18), .inl (cI, 20, .inl (fun _ => 0))) :: ((q6 17), .inl (cI, 20, .inl (fun _ => 0))) :: ((q6 16), .inl (cI, 20, .inl (fun _ => 0))) :: ((q6 15), .inl (cI, 20, .inl (fun _ => 0))) :: ((q6 14), .inl (cI, 192, .inl (fun _ => 0))) :: ((q6 13), .inl (cI, 18, .inl (fun _ => 0))) :: ((q6 12), .inl (cI, 18, .inl (fun _ => 0))) :: ((q6 11), .inl (cI, 18, .inl (fun _ => 0))) :: ((q6 10), .inl (cI, 18, .inl (fun _ => 0))) :: ((q6 9), .inl (cZ, 18, .inl (fun _ => 0))) :: ((q6 8), .inl (cI, 3, .inl (fun _ => 0))) :: ((q6 7), .inl (cZ, 15, .inl (fun _ => 0))) :: ((q6 6), .inl (cI, 15, .inl (fun _ => 0))) :: ((q6 5), .inl (cI, 15, .inl (fun _ => 0))) :: ((q6 4), .inl (cI, 15, .inl (fun _ => 0))) :: ((q6 3), .inl (cI, 15, .inl (fun _ => 0))) :: ((q6 2), .inl (cI, 15, .inl (fun _ => 0))) :: ((q6 1), .inl (cI, 3, .inl (fun _ => 0))) :: (m0, .inr (6, [.int 0, .int 0, .ref (q6 1), .ref (q6 2), .ref (q6 3), .ref (q6 4), .ref (q6 5), .ref (q6 6), .ref (q6 7), .ref (q6 8), .ref (q6 9), .ref (q6 10), .ref (q6 11), .ref (q6 12), .ref (q6 13), .ref (q6 14), .int 0, .ref (q6 15), .ref (q6 16), .ref (q6 17), .ref (q6 18), .ref (q6 19), .ref (q6 20), .int 0, .ref (q6 21), .int 0, .int 0, .ref (q6 22), .ref (q6 23), .int (-1), .int 0, .int 0, .ref (q6 24), .int 0, .ref (q6 25), .ref (q6 26), .ref (q6 27), .ref (q6 28), .ref (q6 29), .int 0, .int 0, .int 0, .int 0, .int (-1), .ref (q6 30)])) :: ((qh 2), .inl (cI, 150, .inl (kfill 150 (-1) (fun _ => 0)))) :: ((qh 1), .inl (cI, 150, .inl (fun _ => 0))) :: ((p 7), .inr (1, [.ref (qh 1), .ref (qh 2), .int (0), .int (0)])) :: ((qp 2), .inl (cI, 5, .inl (fun _ => 0))) :: ((qp 1), .inl (cI, 3125, .inl (fun _ => 0))) :: ((p 6), .inr (2, [.ref (qp 1), .ref (qp 2)])) :: ((qd 6), .inl (cI, 45, .inl (fun _ => 0))) :: ((qd 5), .inl (cZ, 9, .inl (fun _ => 0))) :: ((qd 4), .inl (cI, 9, .inl (fun _ => 0))) :: ((qd 3), .inl (cI, 9, .inl (fun _ => 0))) :: ((qd 2), .inl (cI, 9, .inl (fun _ => 0))) :: ((qd 1), .inl (cI, 8, .inl (fun _ => 0))) :: ((p 5), .inr (3, [.ref (qd 1), .int (0), .ref (qd 2), .ref (qd 3), .ref (qd 4), .ref (qd 5), .ref (qd 6), .int (-1)])) :: ((p 4), .inl (cI, 8, .inl (fun _ => 0))) :: ((p 3), .inl (cI, 3, .inl (fun _ => 0))) :: ((qr 6), .inl (cI, 84, .inl (fun _ => 0))) :: ((qr 5), .inl (cI, 84, .inl (fun _ => 0))) :: ((qr 4), .inl (cI, 20, .inl (fun _ => 0))) :: ((qr 3), .inl (cI, 20, .inl (fun _ => 0))) :: ((qr 2), .inl (cI, 20, .inl (fun _ => 0))) :: ((qr 1), .inl (cI, 20, .inl (fun _ => 0))) :: ((p 2), .inr (4, [.int (0), .int (0), .ref (qr 1), .ref (qr 2), .ref (qr 3), .ref (qr 4), .ref (qr 5), .ref (qr 6)])) :: ((p 1), .inl (cF, 3, .inr (.inr (.inr (.inr (fun _ => none)))))) :: (x0, .inr (5, [.ref (p 1), .int (0), .ref (p 2), .ref (p 3), .int (0), .ref (p 4), .int (0), .ref (p 5), .ref (p 6), .ref (p 7), .int (0), .int (-1), .int (-1), .int (-1)])) :: []
set_option maxRecDepth 20000 in
theorem kst0 (β : Nat) (D : va_G) (cI cZ cF : ClassId) (x0 m0 : Nat) (p qr qd qp qh q6 : Nat → Nat) : ∀ i, i < 55 → (kws0 cI cZ cF x0 m0 p qr qd qp qh q6)[54 - i]? = some (kad0 x0 m0 p qr qd qp qh q6 i, kgl (β, kad0 x0 m0 p qr qd qp qh q6, 55, D, cI, cZ, cF) 0 kS0 i) := by
  intro i hi
  match i, hi with
  | 0, _ => rfl
  | 1, _ => rfl
  | 2, _ => rfl
  | 3, _ => rfl
  | 4, _ => rfl
  | 5, _ => rfl
  | 6, _ => rfl
  | 7, _ => rfl
  | 8, _ => rfl
  | 9, _ => rfl
  | 10, _ => rfl
  | 11, _ => rfl
  | 12, _ => rfl
  | 13, _ => rfl
  | 14, _ => rfl
  | 15, _ => rfl
  | 16, _ => rfl
  | 17, _ => rfl
  | 18, _ => rfl
  | 19, _ => rfl
  | 20, _ => rfl
  | 21, _ => rfl
  | 22, _ => rfl
  | 23, _ => rfl
  | 24, _ => rfl
  | 25, _ => rfl
  | 26, _ => rfl
  | 27, _ => rfl
  | 28, _ => rfl
  | 29, _ => rfl
  | 30, _ => rfl
  | 31, _ => rfl
  | 32, _ => rfl
  | 33, _ => rfl
  | 34, _ => rfl
  | 35, _ => rfl
  | 36, _ => rfl
  | 37, _ => rfl
  | 38, _ => rfl
  | 39, _ => rfl
  | 40, _ => rfl
  | 41, _ => rfl
  | 42, _ => rfl
  | 43, _ => rfl
  | 44, _ => rfl
  | 45, _ => rfl
  | 46, _ => rfl
  | 47, _ => rfl
  | 48, _ => rfl
  | 49, _ => rfl
  | 50, _ => rfl
  | 51, _ => rfl
  | 52, _ => rfl
  | 53, _ => rfl
  | 54, _ => rfl
  | i + 55, hi => omega
set_option maxRecDepth 20000 in
theorem law_start {Inv : Nat → kS → Nat → Prop} (hst : kst_all Inv) (hI : Inv 0 kS0 0) {X : kX} {nm : String} {β : Nat} {D : va_G} {cI cZ : ClassId} {b L : Nat} {xs : Nat → Int32} (hX : va_X b L xs (kx_s X) (kx_s X).heap) (hbl : b < (kx_s X).heap.size) (hbA : ¬ β ≤ b) (hL : L ≤ 3072) (hAO : va_AO RX0 (kx_s X)) (hβ : β = (kx_s X).heap.size) (hRr : kx_R X = room_1) (hargs : kx_a X = #[Value.ref b]) : kU (X, RL, 4, some .boolean, nm, β, D, [(cI, .int), (cZ, .boolean)], room_1, (0, 0), lw_Z (kx_b X) #[Value.ref b] (kx_s X)) code [] [some (.ref b), none, none, none] [] 0 := by
  refine kU_new (ci := 5) (ty := tyX5) [.null, .int 0, .null, .null, .int 0, .null, .int 0, .null, .null, .null, .int 0, .int 0, .int 0, .int 0] 3 dL_law_0 inlX5 tyX5_ok (wi_r1 _ (List.mem_of_getElem? (i := 0) rfl)) (wi_r1 _ (List.mem_of_getElem? (i := 1) rfl)) (wi_r1 _ (List.mem_of_getElem? (i := 2) rfl)) rfl (by decide +kernel) (by rw [kr_cells]; decide) (by rw [kr_slots]; decide) rfl (fun x0 => ?_)
  refine kU_dup 4 dL_law_3 rfl rfl ?_
  refine kU_callI 7 dL_law_4 (ctX5 0 x0 _) kmsX5_init rfl rfl (wi_r1 _ (List.mem_of_getElem? (i := 7) rfl)) (wi_r1 _ (List.mem_of_getElem? (i := 6) rfl)) rfl (by rw [kr_frames, kr_locals]; decide) (by rw [kr_cells, kr_slots]; decide) rfl (fun tys' ws' hpost => ?_)
  obtain ⟨cF, p, qr, qd, qp, qh, rfl, rfl⟩ := hpost
  refine kU_astoren 8 [some (.ref b), some (.ref x0), none, none] dL_law_7 rfl rfl rfl ?_
  refine kU_new (ci := 6) (ty := tyX6) [.int 0, .int 0, .null, .null, .null, .null, .null, .null, .null, .null, .null, .null, .null, .null, .null, .null, .int 0, .null, .null, .null, .null, .null, .null, .int 0, .null, .int 0, .int 0, .null, .null, .int 0, .int 0, .int 0, .null, .int 0, .null, .null, .null, .null, .null, .int 0, .int 0, .int 0, .int 0, .int 0, .null] 11 dL_law_8 inlX6 tyX6_ok (wi_r1 _ (List.mem_of_getElem? (i := 3) rfl)) (wi_r1 _ (List.mem_of_getElem? (i := 4) rfl)) (wi_r1 _ (List.mem_of_getElem? (i := 5) rfl)) rfl (by decide +kernel) (by rw [kr_cells]; decide) (by rw [kr_slots]; decide) rfl (fun m0 => ?_)
  refine kU_dup 12 dL_law_11 rfl rfl ?_
  refine kU_callI 15 dL_law_12 (ctX6 0 m0 _) kmsX6_init rfl rfl (wi_r4 _ (List.mem_of_getElem? (i := 9) rfl)) (wi_r4 _ (List.mem_of_getElem? (i := 8) rfl)) rfl (by rw [kr_frames, kr_locals]; decide) (by rw [kr_cells, kr_slots]; decide) rfl (fun tys' ws' hpost => ?_)
  obtain ⟨rfl, q6, rfl⟩ := hpost
  refine kU_astoren 16 [some (.ref b), some (.ref x0), some (.ref m0), none] dL_law_15 rfl rfl rfl ?_
  refine kU_iconst 17 dL_law_16 ic_0 rfl ?_
  refine kU_istoren 18 [some (.ref b), some (.ref x0), some (.ref m0), some (.int 0)] dL_law_17 rfl rfl rfl ?_
  show kU (X, RL, 4, some .boolean, nm, β, D, [(cI, .int), (cZ, .boolean), (cF, .object RX0)], room_1, (55 + 14 * 0, 7969 + 203 * 0), lw_Z (kx_b X) #[Value.ref b] (kx_s X)) code (kws0 cI cZ cF x0 m0 p qr qd qp qh q6) [some (.ref b), some (.ref x0), some (.ref m0), some (.int (nI (6 * 0)))] [] 18
  refine kU_perm (ws' := kwl (kad0 x0 m0 p qr qd qp qh q6) 55 (kgl (β, kad0 x0 m0 p qr qd qp qh q6, 55, D, cI, cZ, cF) 0 kS0)) (fun i => 54 - i) ?_ ?_ ?_
  · intro i q hq
    obtain ⟨hi, rfl⟩ := kwl_of hq
    exact kst0 β D cI cZ cF x0 m0 p qr qd qp qh q6 i hi
  · intro i j hi hj hij
    have hl : ∀ f, (kwl (kad0 x0 m0 p qr qd qp qh q6) 55 f).length = 55 := fun f => by simp [kwl]
    rw [hl] at hi hj
    omega
  refine kU_ofV ?_
  refine law_loop hst hX hbl hbA hL hAO (fun ad n f lv hn => ?_) 513 0 0 kS0 (kad0 x0 m0 p qr qd qp qh q6) (by omega) (by omega) (by omega) hI
  intro F H locs ls hP hS hLs
  show W X.1 X.2.1 X.2.2.1 (kx_R X) (kx_s X) (kx_m X) (kx_a X) (kx_b X) (kx_t X) (kx_c X) H locs _ _ _ _
  refine va_forget (fun q hq => by rw [← hβ]; exact hS.2.2 q hq) ?_
  refine W.widen (k := 600000) (n := 7302250) (by show 55 + 14 * n ≤ 600000; omega) (by show 7969 + 203 * n ≤ 7302250; omega) ?_
  rw [hRr, hargs]
  exact lw_ret F.1.1 F.1.2.1 F.2.2.2.2.2.2.1 F.2.2.2.2.2.2.2.1 dL_law_728
def lw_At (p : Program) (s : State) (m : MethodId) (meth : Method) (c : Code) (b L : Nat) (xs : Nat → Int32) : Prop :=
  p.tables.exec = Jvm.exec ∧ c.code = code ∧ meth.sig.returnType = ret ∧ c.maxLocals = 4 ∧ s.vm.findClass R_law = some m.cls ∧ (∀ w ∈ lw_tbl, w.before #[Value.ref b] s = true) ∧ va_X b L xs s s.heap ∧ b < s.heap.size ∧ meth.locks = false ∧ (Jvm.Cond.and given_1 narrow_1).before #[Value.ref b] s = true
theorem kArr {s : State} {args : Array Value} {ty : FieldType} (h : (Cond.arrayClass ty).before args s = true) (hty : ty = .int ∨ ty = .boolean) : ∃ cA, ArrOfT s cA ty ∧ va_RA s cA ty := by
  obtain ⟨cA, k, comp, h1, h2, h3⟩ := Cond.arrayClass_spec h
  refine ⟨cA, fun n z => ⟨fun k h => (by cases h), k, h2, comp, h3⟩, ?_⟩
  rcases hty with rfl | rfl <;> exact h1
theorem whole_open {Inv : Nat → kS → Nat → Prop} (hst : kst_all Inv) (hI : Inv 0 kS0 0) {p : Program} {e : Env} {s : State} {m : MethodId} {below : List Frame} {meth : Method} {c : Code} (l : Launch) {b L : Nat} {xs : Nat → Int32} (hL : L ≤ 3072) (C0 : lw_At p s m meth c b L xs) : W p l e room_1 s m #[Value.ref b] below meth c s.heap [] 0 0 (lw_Z below #[Value.ref b] s) (entryFrame m ([Value.ref b] : List Value).toArray 4) := by
  obtain ⟨hx, hb, hr, hml, hown, hts, hX, hbl, hlocks, hgv⟩ := id C0
  have hw : ∀ w ∈ wsL_law, w.before #[Value.ref b] s = true := fun w h => hts w (wl_all w h)

  obtain ⟨c0, iS0, hKn0⟩ := u_known (C := RX0) (T := TX0) (N := 15) (n := 15) hts wl_x0 (hw (.instantiable RX0 15) (wi_r6 _ (List.mem_of_getElem? (i := 0) rfl)))
  obtain ⟨c1, iS1, hKn1⟩ := u_known (C := RX1) (T := TX1) (N := 4) (n := 4) hts wl_x1 (hw (.instantiable RX1 4) (wi_r2 _ (List.mem_of_getElem? (i := 9) rfl)))
  obtain ⟨c2, iS2, hKn2⟩ := u_known (C := RX2) (T := TX2) (N := 2) (n := 2) hts wl_x2 (hw (.instantiable RX2 2) (wi_r2 _ (List.mem_of_getElem? (i := 5) rfl)))
  obtain ⟨c3, iS3, hKn3⟩ := u_known (C := RX3) (T := TX3) (N := 8) (n := 8) hts wl_x3 (hw (.instantiable RX3 8) (wi_r2 _ (List.mem_of_getElem? (i := 1) rfl)))
  obtain ⟨c4, iS4, hKn4⟩ := u_known (C := RX4) (T := TX4) (N := 8) (n := 8) hts wl_x4 (hw (.instantiable RX4 8) (wi_r1 _ (List.mem_of_getElem? (i := 16) rfl)))
  obtain ⟨c5, iS5, hKn5⟩ := u_known (C := RX5) (T := TX5) (N := 14) (n := 14) hts wl_x5 (hw (.instantiable RX5 14) (wi_r1 _ (List.mem_of_getElem? (i := 1) rfl)))
  obtain ⟨c6, iS6, hKn6⟩ := u_known (C := RX6) (T := TX6) (N := 45) (n := 45) hts wl_x6 (hw (.instantiable RX6 45) (wi_r1 _ (List.mem_of_getElem? (i := 4) rfl)))
  obtain ⟨D, hKc⟩ : ∃ D : va_G, ∀ (k : Nat) (q : vw_C), vwCl[k]? = some q → u_Kn s q.1 q.2.1 q.2.2 (D.1 k) (D.2 k) := by
    refine ⟨(fun k => match k with | 0 => c0 | 1 => c1 | 2 => c2 | 3 => c3 | 4 => c4 | 5 => c5 | _ => c6, fun k => match k with | 0 => iS0 | 1 => iS1 | 2 => iS2 | 3 => iS3 | 4 => iS4 | 5 => iS5 | _ => iS6), ?_⟩
    intro k q hq
    match k, hq with
    | 0, hq => cases hq; exact hKn0
    | 1, hq => cases hq; exact hKn1
    | 2, hq => cases hq; exact hKn2
    | 3, hq => cases hq; exact hKn3
    | 4, hq => cases hq; exact hKn4
    | 5, hq => cases hq; exact hKn5
    | 6, hq => cases hq; exact hKn6
    | k + 7, hq => simp [vwCl] at hq
  obtain ⟨cI, hI1, hI2⟩ := kArr (hw (.arrayClass .int) (wi_r1 _ (List.mem_of_getElem? (i := 19) rfl))) (Or.inl rfl)
  obtain ⟨cZ, hZ1, hZ2⟩ := kArr (hw (.arrayClass .boolean) (wi_r3 _ (List.mem_of_getElem? (i := 11) rfl))) (Or.inr rfl)
  have hK : va_K D vwCl [(cI, .int), (cZ, .boolean)] s := ⟨hKc, fun k q h => by
    match k, h with
    | 0, h => cases h; exact ⟨hI1, hI2⟩
    | 1, h => cases h; exact ⟨hZ1, hZ2⟩
    | k + 2, h => simp at h⟩
  have hAO : va_AO RX0 s := va_AO.of (hts _ wn_5)
  have hNw : kNw s := ⟨va_Nw.of rfl (hts _ wn_1), va_Nw.of rfl (hts _ wn_2), va_Nw.of rfl (hts _ wn_3), va_Nw.of rfl (hts _ wn_4)⟩
  rw [lg_entry_eq]
  refine law_start (X := (p, l, e, room_1, s, m, #[Value.ref b], below, meth, c)) (nm := meth.name) (β := s.heap.size) (D := D) (cI := cI) (cZ := cZ) hst hI hX hbl (Nat.not_le.mpr hbl) hL hAO rfl rfl rfl ⟨⟨hx, hb, hml, hown, hw⟩, hK, hNw, hAO, Nat.le_refl _, hr, hlocks, rfl, rfl⟩ s.heap [] _ (fun k q h => by simp at h) ⟨fun i j p q h => by simp at h, fun k q h => by simp at h⟩ va_S.rf (kLs_entry [.ref b] (n := 4) (kcat_spec rfl) (Nat.le_of_ble_eq_true rfl))
