/-! the machine's context of one running method, in one value -/
abbrev kX : Type := Program × Launch × Env × Room × State × MethodId × Array Value × List Frame × Method × Code
abbrev kx_R (X : kX) : Room := X.2.2.2.1
abbrev kx_s (X : kX) : State := X.2.2.2.2.1
abbrev kx_m (X : kX) : MethodId := X.2.2.2.2.2.1
abbrev kx_a (X : kX) : Array Value := X.2.2.2.2.2.2.1
abbrev kx_b (X : kX) : List Frame := X.2.2.2.2.2.2.2.1
abbrev kx_t (X : kX) : Method := X.2.2.2.2.2.2.2.2.1
abbrev kx_c (X : kX) : Code := X.2.2.2.2.2.2.2.2.2
def kW (X : kX) (cs : Nat × Nat) (H : Heap) (locs : List Loc) (Q : State → Prop) (g : JFrame) : Prop := W X.1 X.2.1 X.2.2.1 (kx_R X) (kx_s X) (kx_m X) (kx_a X) (kx_b X) (kx_t X) (kx_c X) H locs cs.1 cs.2 Q g
/-- the world's frame: the first address that is ours, where each cell lies, how many there are, the numbers of the kinds of objects and rows -/
abbrev kG : Type := Nat × (Nat → Nat) × Nat × va_G × ClassId × ClassId × ClassId
abbrev kg_b (G : kG) : Nat := G.1
abbrev kg_ad (G : kG) : Nat → Nat := G.2.1
abbrev kg_N (G : kG) : Nat := G.2.2.1
abbrev kg_D (G : kG) : va_G := G.2.2.2.1
abbrev kg_I (G : kG) : ClassId := G.2.2.2.2.1
abbrev kg_Z (G : kG) : ClassId := G.2.2.2.2.2.1
abbrev kg_F (G : kG) : ClassId := G.2.2.2.2.2.2
abbrev kg_tys (G : kG) : List (ClassId × FieldType) := [(kg_I G, .int), (kg_Z G, .boolean), (kg_F G, .object RX0)]
def kwl (ad : Nat → Nat) (N : Nat) (f : Nat → va_E) : va_W := (List.range N).map (fun d => (ad d, f d))
theorem kwl_get {ad : Nat → Nat} {N : Nat} {f : Nat → va_E} {d : Nat} (h : d < N) : (kwl ad N f)[d]? = some (ad d, f d) := by simp [kwl, h]
theorem kwl_of {ad : Nat → Nat} {N : Nat} {f : Nat → va_E} {d : Nat} {q : Nat × va_E} (h : (kwl ad N f)[d]? = some q) : d < N ∧ q = (ad d, f d) := by
  have hd : d < N := by
    have := (List.getElem?_eq_some_iff.mp h).1
    simpa [kwl] using this
  rw [kwl_get hd] at h
  exact ⟨hd, (Option.some.inj h).symm⟩
theorem kwl_set {ad : Nat → Nat} {N : Nat} {f : Nat → va_E} {d : Nat} {e : va_E} : (kwl ad N f).set d (ad d, e) = kwl ad N (va_up f d e) := by
  apply List.ext_getElem?
  intro i
  rw [List.getElem?_set]
  by_cases hi : i < N
  · rw [kwl_get hi, kwl_get hi]
    by_cases h : d = i
    · subst h
      simp [kwl, hi, va_up]
    · rw [if_neg h, va_up_ne _ _ (fun q => h q.symm)]
  · have e1 : ∀ g : Nat → va_E, (kwl ad N g)[i]? = none := fun g => by simp [kwl]; omega
    rw [e1, e1]
    split
    · rw [if_neg (by simp [kwl]; omega)]
    · rfl
theorem kwl_D {ad : Nat → Nat} {N : Nat} {f : Nat → va_E} {A : Nat → Prop} (h1 : ∀ i j, i < N → j < N → ad i = ad j → i = j) (h2 : ∀ d, d < N → A (ad d)) : va_D A (kwl ad N f) := by
  refine ⟨fun i j p q hp hq hpq => ?_, fun k q hq => ?_⟩
  · obtain ⟨a1, rfl⟩ := kwl_of hp
    obtain ⟨a2, rfl⟩ := kwl_of hq
    exact h1 i j a1 a2 hpq
  · obtain ⟨a1, rfl⟩ := kwl_of hq
    exact h2 k a1
theorem kwl_congr {ad ad' : Nat → Nat} {N : Nat} {f g : Nat → va_E} (h1 : ∀ d, d < N → ad d = ad' d) (h : ∀ d, d < N → f d = g d) : kwl ad N f = kwl ad' N g := by
  apply List.map_congr_left
  intro d hd
  have := List.mem_range.mp hd
  rw [h1 d this, h d this]
theorem kwl_push {ad : Nat → Nat} {N : Nat} {f : Nat → va_E} {q : Nat} {e : va_E} : kwl ad N f ++ [(q, e)] = kwl (va_up ad N q) (N + 1) (va_up f N e) := by
  have h : kwl ad N f = kwl (va_up ad N q) N (va_up f N e) := kwl_congr (fun d hd => (va_up_ne _ _ (Nat.ne_of_lt hd)).symm) (fun d hd => (va_up_ne _ _ (Nat.ne_of_lt hd)).symm)
  rw [h]
  simp [kwl, List.range_succ, va_up]
/-- the words of links between nest mates, which no other word keeps -/
def kNw (s : State) : Prop := va_Nw (.methodLinkNest "TalkKeeper" 21 yX4_init "TalkKeeper") s ∧ va_Nw (.methodLinkNest "TalkKeeper" 41 yX3_init "TalkKeeper") s ∧ va_Nw (.methodLinkNest "TalkKeeper" 48 yX2_init "TalkKeeper") s ∧ va_Nw (.methodLinkNest "TalkKeeper$Form" 68 yX5_isWord "TalkKeeper") s
theorem kNw.warm {s U : State} (hW : s.WarmedH U.vm) (h : kNw s) : kNw U := ⟨va_Nw.warmM hW h.1, va_Nw.warmM hW h.2.1, va_Nw.warmM hW h.2.2.1, va_Nw.warmM hW h.2.2.2⟩
theorem kNw.same {s U : State} (hv : s.vm = U.vm) (h : kNw s) : kNw U := ⟨va_Nw.same rfl hv h.1, va_Nw.same rfl hv h.2.1, va_Nw.same rfl hv h.2.2.1, va_Nw.same rfl hv h.2.2.2⟩
/-- what holds of a running method: the machine, its code, the tables' words, the frame of the world -/
def kF (X : kX) (cc : ByteArray) (own : String) (nL : Nat) (ret : Option FieldType) (G : kG) (R : Room) : Prop :=
  CallFix X.1 (kx_m X) (kx_c X) cc nL (kx_s X) (kx_a X) wsL_law own ∧ va_K (kg_D G) vwCl (kg_tys G) (kx_s X) ∧ kNw (kx_s X) ∧
  (∀ i j, i < kg_N G → j < kg_N G → kg_ad G i = kg_ad G j → i = j) ∧ (∀ d, d < kg_N G → kg_b G ≤ kg_ad G d) ∧ kg_b G ≤ (kx_s X).heap.size ∧ (kx_t X).sig.returnType = ret ∧ (kx_t X).locks = false ∧ kx_R X = R
def kLs (ls : Array Slot) (nL : Nat) (lv : List (Option Value)) : Prop := ls.size = nL ∧ lv_wf ls ∧ ∀ (i : Nat) (v : Value), lv[i]? = some (some v) → ls[i]? = some (.val v) ∧ v.category = 1
/-- one method's frame: context, own name, locals, answer's type, world's frame, room, cells and slots made so far, the end that is sought -/
abbrev kY : Type := kX × String × Nat × Option FieldType × kG × Room × (Nat × Nat) × (State → Prop)
abbrev ky_X (Y : kY) : kX := Y.1
abbrev ky_own (Y : kY) : String := Y.2.1
abbrev ky_nL (Y : kY) : Nat := Y.2.2.1
abbrev ky_ret (Y : kY) : Option FieldType := Y.2.2.2.1
abbrev ky_G (Y : kY) : kG := Y.2.2.2.2.1
abbrev ky_R (Y : kY) : Room := Y.2.2.2.2.2.1
abbrev ky_cs (Y : kY) : Nat × Nat := Y.2.2.2.2.2.2.1
abbrev ky_Q (Y : kY) : State → Prop := Y.2.2.2.2.2.2.2
def kV (Y : kY) (cc : ByteArray) (f : Nat → va_E) (lv : List (Option Value)) (st : List Value) (pc : Nat) : Prop :=
  kF (ky_X Y) cc (ky_own Y) (ky_nL Y) (ky_ret Y) (ky_G Y) (ky_R Y) → ∀ (H : Heap) (locs : List Loc) (ls : Array Slot), va_P (kg_D (ky_G Y)) vwCl (kwl (kg_ad (ky_G Y)) (kg_N (ky_G Y)) f) H → va_S (fun q => kg_b (ky_G Y) ≤ q) (kx_s (ky_X Y)).heap H locs → kLs ls (ky_nL Y) lv →
    kW (ky_X Y) (ky_cs Y) H locs (ky_Q Y) (F0 (kx_m (ky_X Y)) pc ls st)
theorem kF.D {X : kX} {cc : ByteArray} {own : String} {nL : Nat} {ret : Option FieldType} {G : kG} {R : Room} (F : kF X cc own nL ret G R) {f : Nat → va_E} : va_D (fun q => kg_b G ≤ q) (kwl (kg_ad G) (kg_N G) f) := kwl_D F.2.2.2.1 F.2.2.2.2.1
/-- fewer locals -/
def kLe : List (Option Value) → List Bool → List (Option Value)
  | a :: l, true :: b => a :: kLe l b
  | _ :: l, false :: b => none :: kLe l b
  | _, _ => []
theorem kLe_spec : ∀ (l : List (Option Value)) (b : List Bool) (i : Nat) (v : Value), (kLe l b)[i]? = some (some v) → l[i]? = some (some v)
  | a :: l, true :: b, 0, v, h => h
  | a :: l, true :: b, i + 1, v, h => kLe_spec l b i v (by simpa [kLe] using h)
  | a :: l, false :: b, 0, v, h => by simp [kLe] at h
  | a :: l, false :: b, i + 1, v, h => by simpa using kLe_spec l b i v (by simpa [kLe] using h)
  | [], _, i, v, h => by simp [kLe] at h
  | _ :: _, [], i, v, h => by simp [kLe] at h
def kAs (lv : List (Option Value)) : List (Nat × Value) := (List.range lv.length).filterMap (fun i => match lv[i]? with | some (some v) => some (i, v) | _ => none)
theorem kAs_mem {lv : List (Option Value)} {q : Nat × Value} : q ∈ kAs lv ↔ lv[q.1]? = some (some q.2) := by
  unfold kAs
  rw [List.mem_filterMap]
  constructor
  · rintro ⟨i, -, h⟩
    split at h
    · next v hv => cases h; exact hv
    · cases h
  · intro h
    refine ⟨q.1, List.mem_range.mpr (List.getElem?_eq_some_iff.mp h).1, ?_⟩
    rw [h]
theorem kLs.has {ls : Array Slot} {nL : Nat} {lv : List (Option Value)} (h : kLs ls nL lv) : lv_has ls nL (kAs lv) := ⟨h.1, h.2.1, fun q hq => (h.2.2 q.1 q.2 (kAs_mem.mp hq)).1⟩
theorem kLs.stored {ls ls' : Array Slot} {nL i : Nat} {v : Value} {lv : List (Option Value)} (h : kLs ls nL lv) (hc : v.category = 1) (h' : lv_has ls' nL ((i, v) :: (kAs lv).filter (fun q => !(q.1 == i) && !(q.1 + 1 == i && q.2.category == 2)))) : kLs ls' nL (lv.set i (some v)) := by
  refine ⟨h'.1, h'.2.1, fun j w hj => ?_⟩
  rw [List.getElem?_set] at hj
  by_cases e : i = j
  · subst e
    rw [if_pos rfl] at hj
    split at hj
    · cases hj
      exact ⟨h'.2.2 (i, v) List.mem_cons_self, hc⟩
    · cases hj
  · rw [if_neg e] at hj
    have hcat := (h.2.2 j w hj).2
    refine ⟨h'.2.2 (j, w) (List.mem_cons_of_mem _ (List.mem_filter.mpr ⟨kAs_mem.mpr hj, ?_⟩)), hcat⟩
    simp [hcat, Ne.symm e]
section KROWS
variable {Y : kY} {cc : ByteArray} {f : Nat → va_E} {lv : List (Option Value)} {st : List Value} {pc : Nat}
theorem kV_drop (b : List Bool) {lv' : List (Option Value)} (hl : kLe lv b = lv') (kk : kV Y cc f lv' st pc) : kV Y cc f lv st pc :=
  fun F H locs ls hP hS hL => kk F H locs ls hP hS ⟨hL.1, hL.2.1, fun i v h => hL.2.2 i v (by rw [← hl] at h; exact kLe_spec lv b i v h)⟩
theorem kV_iconst {n : Int} {v : Int32} (pc' : Nat) (hd : decode cc pc = .ok (.iconst n, 1)) (hv : Int32.ofInt n = v) (hp : pc + 1 = pc') (kk : kV Y cc f lv (.int v :: st) pc') : kV Y cc f lv st pc :=
  fun F H locs ls hP hS hL => by subst hp; exact lv_iconst F.1.1 F.1.2.1 hd hv (kk F H locs ls hP hS hL)
theorem kV_bipush {n : Int} {v : Int32} (pc' : Nat) (hd : decode cc pc = .ok (.bipush n, 2)) (hv : (Int8.ofInt n).toInt32 = v) (hp : pc + 2 = pc') (kk : kV Y cc f lv (.int v :: st) pc') : kV Y cc f lv st pc :=
  fun F H locs ls hP hS hL => by subst hp; exact lv_bipush F.1.1 F.1.2.1 hd hv (kk F H locs ls hP hS hL)
theorem kV_sipush {n : Int} {v : Int32} (pc' : Nat) (hd : decode cc pc = .ok (.sipush n, 3)) (hv : (Int16.ofInt n).toInt32 = v) (hp : pc + 3 = pc') (kk : kV Y cc f lv (.int v :: st) pc') : kV Y cc f lv st pc :=
  fun F H locs ls hP hS hL => by subst hp; exact lv_sipush F.1.1 F.1.2.1 hd hv (kk F H locs ls hP hS hL)
theorem kV_ldc {index : Nat} {v : Int32} (pc' : Nat) (hd : decode cc pc = .ok (.ldc index, 2)) (hc : Cond.constant (ky_own Y) index v ∈ wsL_law) (hp : pc + 2 = pc') (kk : kV Y cc f lv (.int v :: st) pc') : kV Y cc f lv st pc :=
  fun F H locs ls hP hS hL => by subst hp; exact lv_ldc F.1.1 F.1.2.1 F.1.2.2.2.1 (F.1.2.2.2.2 _ hc) hd (kk F H locs ls hP hS hL)
theorem kV_ldcw {index : Nat} {v : Int32} (pc' : Nat) (hd : decode cc pc = .ok (.ldc_w index, 3)) (hc : Cond.constant (ky_own Y) index v ∈ wsL_law) (hp : pc + 3 = pc') (kk : kV Y cc f lv (.int v :: st) pc') : kV Y cc f lv st pc :=
  fun F H locs ls hP hS hL => by subst hp; exact lv_ldcw F.1.1 F.1.2.1 F.1.2.2.2.1 (F.1.2.2.2.2 _ hc) hd (kk F H locs ls hP hS hL)
theorem kV_iloadn {k : Fin 4} {x : Int32} (pc' : Nat) (hd : decode cc pc = .ok (.iload_n k, 1)) (hl : lv[(k : Nat)]? = some (some (.int x))) (hp : pc + 1 = pc') (kk : kV Y cc f lv (.int x :: st) pc') : kV Y cc f lv st pc :=
  fun F H locs ls hP hS hL => by subst hp; exact lv_iload_n F.1.1 F.1.2.1 hd rfl (hL.2.2 _ _ hl).1 (kk F H locs ls hP hS hL)
theorem kV_iload {k : Nat} {x : Int32} (pc' : Nat) (hd : decode cc pc = .ok (.iload k, 2)) (hl : lv[k]? = some (some (.int x))) (hp : pc + 2 = pc') (kk : kV Y cc f lv (.int x :: st) pc') : kV Y cc f lv st pc :=
  fun F H locs ls hP hS hL => by subst hp; exact lv_iload F.1.1 F.1.2.1 hd (hL.2.2 _ _ hl).1 (kk F H locs ls hP hS hL)
theorem kV_aloadn {k : Fin 4} {x : Nat} (pc' : Nat) (hd : decode cc pc = .ok (.aload_n k, 1)) (hl : lv[(k : Nat)]? = some (some (.ref x))) (hp : pc + 1 = pc') (kk : kV Y cc f lv (.ref x :: st) pc') : kV Y cc f lv st pc :=
  fun F H locs ls hP hS hL => by subst hp; exact lv_aload_n F.1.1 F.1.2.1 hd rfl (hL.2.2 _ _ hl).1 (kk F H locs ls hP hS hL)
theorem kV_aload {k : Nat} {x : Nat} (pc' : Nat) (hd : decode cc pc = .ok (.aload k, 2)) (hl : lv[k]? = some (some (.ref x))) (hp : pc + 2 = pc') (kk : kV Y cc f lv (.ref x :: st) pc') : kV Y cc f lv st pc :=
  fun F H locs ls hP hS hL => by subst hp; exact lv_aload F.1.1 F.1.2.1 hd (hL.2.2 _ _ hl).1 (kk F H locs ls hP hS hL)
theorem kV_aloadnN {k : Fin 4} (pc' : Nat) (hd : decode cc pc = .ok (.aload_n k, 1)) (hl : lv[(k : Nat)]? = some (some .null)) (hp : pc + 1 = pc') (kk : kV Y cc f lv (.null :: st) pc') : kV Y cc f lv st pc :=
  fun F H locs ls hP hS hL => by subst hp; exact lv_aload_nN F.1.1 F.1.2.1 hd rfl (hL.2.2 _ _ hl).1 (kk F H locs ls hP hS hL)
theorem kV_aloadN {k : Nat} (pc' : Nat) (hd : decode cc pc = .ok (.aload k, 2)) (hl : lv[k]? = some (some .null)) (hp : pc + 2 = pc') (kk : kV Y cc f lv (.null :: st) pc') : kV Y cc f lv st pc :=
  fun F H locs ls hP hS hL => by subst hp; exact lv_aloadN F.1.1 F.1.2.1 hd (hL.2.2 _ _ hl).1 (kk F H locs ls hP hS hL)
theorem kV_istoren {k : Fin 4} {x : Int32} (pc' : Nat) (lv' : List (Option Value)) (hd : decode cc pc = .ok (.istore_n k, 1)) (hn : Nat.blt (k : Nat) (ky_nL Y) = true) (hl : lv.set (k : Nat) (some (.int x)) = lv') (hp : pc + 1 = pc') (kk : kV Y cc f lv' st pc') : kV Y cc f lv (.int x :: st) pc :=
  fun F H locs ls hP hS hL => by subst hp; subst hl; exact lv_istore_n F.1.1 F.1.2.1 hd rfl hL.has (Nat.le_of_ble_eq_true hn) rfl (fun ls' h' => kk F H locs ls' hP hS (hL.stored rfl h'))
theorem kV_istore {k : Nat} {x : Int32} (pc' : Nat) (lv' : List (Option Value)) (hd : decode cc pc = .ok (.istore k, 2)) (hn : Nat.blt k (ky_nL Y) = true) (hl : lv.set k (some (.int x)) = lv') (hp : pc + 2 = pc') (kk : kV Y cc f lv' st pc') : kV Y cc f lv (.int x :: st) pc :=
  fun F H locs ls hP hS hL => by subst hp; subst hl; exact lv_istore F.1.1 F.1.2.1 hd hL.has (Nat.le_of_ble_eq_true hn) rfl (fun ls' h' => kk F H locs ls' hP hS (hL.stored rfl h'))
theorem kV_astoren {k : Fin 4} {x : Nat} (pc' : Nat) (lv' : List (Option Value)) (hd : decode cc pc = .ok (.astore_n k, 1)) (hn : Nat.blt (k : Nat) (ky_nL Y) = true) (hl : lv.set (k : Nat) (some (.ref x)) = lv') (hp : pc + 1 = pc') (kk : kV Y cc f lv' st pc') : kV Y cc f lv (.ref x :: st) pc :=
  fun F H locs ls hP hS hL => by subst hp; subst hl; exact lv_astore_n F.1.1 F.1.2.1 hd rfl hL.has (Nat.le_of_ble_eq_true hn) rfl (fun ls' h' => kk F H locs ls' hP hS (hL.stored rfl h'))
theorem kV_astore {k : Nat} {x : Nat} (pc' : Nat) (lv' : List (Option Value)) (hd : decode cc pc = .ok (.astore k, 2)) (hn : Nat.blt k (ky_nL Y) = true) (hl : lv.set k (some (.ref x)) = lv') (hp : pc + 2 = pc') (kk : kV Y cc f lv' st pc') : kV Y cc f lv (.ref x :: st) pc :=
  fun F H locs ls hP hS hL => by subst hp; subst hl; exact lv_astore F.1.1 F.1.2.1 hd hL.has (Nat.le_of_ble_eq_true hn) rfl (fun ls' h' => kk F H locs ls' hP hS (hL.stored rfl h'))
theorem kV_astorenN {k : Fin 4} (pc' : Nat) (lv' : List (Option Value)) (hd : decode cc pc = .ok (.astore_n k, 1)) (hn : Nat.blt (k : Nat) (ky_nL Y) = true) (hl : lv.set (k : Nat) (some .null) = lv') (hp : pc + 1 = pc') (kk : kV Y cc f lv' st pc') : kV Y cc f lv (.null :: st) pc :=
  fun F H locs ls hP hS hL => by subst hp; subst hl; exact lv_astore_nN F.1.1 F.1.2.1 hd rfl hL.has (Nat.le_of_ble_eq_true hn) rfl (fun ls' h' => kk F H locs ls' hP hS (hL.stored rfl h'))
theorem kV_astoreN {k : Nat} (pc' : Nat) (lv' : List (Option Value)) (hd : decode cc pc = .ok (.astore k, 2)) (hn : Nat.blt k (ky_nL Y) = true) (hl : lv.set k (some .null) = lv') (hp : pc + 2 = pc') (kk : kV Y cc f lv' st pc') : kV Y cc f lv (.null :: st) pc :=
  fun F H locs ls hP hS hL => by subst hp; subst hl; exact lv_astoreN F.1.1 F.1.2.1 hd hL.has (Nat.le_of_ble_eq_true hn) rfl (fun ls' h' => kk F H locs ls' hP hS (hL.stored rfl h'))
theorem kV_iinc {k : Nat} {n : Int} {x v : Int32} (pc' : Nat) (lv' : List (Option Value)) (hd : decode cc pc = .ok (.iinc k n, 3)) (hl0 : lv[k]? = some (some (.int x))) (hv : x + Int32.ofInt n = v) (hn : Nat.blt k (ky_nL Y) = true) (hl : lv.set k (some (.int v)) = lv') (hp : pc + 3 = pc') (kk : kV Y cc f lv' st pc') : kV Y cc f lv st pc :=
  fun F H locs ls hP hS hL => by
    subst hp; subst hl
    obtain ⟨j, hj⟩ := List.getElem?_of_mem (kAs_mem (q := (k, Value.int x)).mpr hl0)
    exact lv_iinc F.1.1 F.1.2.1 hd hL.has hj hv (Nat.le_of_ble_eq_true hn) rfl (fun ls' h' => kk F H locs ls' hP hS (hL.stored rfl h'))
theorem kV_dup {v : Value} (pc' : Nat) (hd : decode cc pc = .ok (.dup, 1)) (hv : v.category = 1) (hp : pc + 1 = pc') (kk : kV Y cc f lv (v :: v :: st) pc') : kV Y cc f lv (v :: st) pc :=
  fun F H locs ls hP hS hL => by subst hp; exact lv_dup F.1.1 F.1.2.1 hd hv (kk F H locs ls hP hS hL)
theorem kV_pop {v : Value} (pc' : Nat) (hd : decode cc pc = .ok (.pop, 1)) (hv : v.category = 1) (hp : pc + 1 = pc') (kk : kV Y cc f lv st pc') : kV Y cc f lv (v :: st) pc :=
  fun F H locs ls hP hS hL => by subst hp; exact lv_pop F.1.1 F.1.2.1 hd hv (kk F H locs ls hP hS hL)
theorem kV_dup2 {v w : Value} (pc' : Nat) (hd : decode cc pc = .ok (.dup2, 1)) (hv : v.category = 1) (hw : w.category = 1) (hp : pc + 1 = pc') (kk : kV Y cc f lv (v :: w :: v :: w :: st) pc') : kV Y cc f lv (v :: w :: st) pc :=
  fun F H locs ls hP hS hL => by subst hp; exact lv_dup2_11 F.1.1 F.1.2.1 hd hv hw (kk F H locs ls hP hS hL)
theorem kV_goto {off : Int} (tgt : Nat) (hd : decode cc pc = .ok (.goto off, 3)) (ht : (pc : Int) + off = (tgt : Int)) (kk : kV Y cc f lv st tgt) : kV Y cc f lv st pc :=
  fun F H locs ls hP hS hL => lv_goto F.1.1 F.1.2.1 hd ht (kk F H locs ls hP hS hL)
theorem kV_tableOut {dflt lo hi : Int} {offs : Array Int} {len : Nat} {x : Int32} (tgt : Nat) (hd : decode cc pc = .ok (.tableswitch dflt lo hi offs, len)) (h : x.toInt < lo ∨ hi < x.toInt) (ht : (pc : Int) + dflt = (tgt : Int)) (kk : kV Y cc f lv st tgt) : kV Y cc f lv (.int x :: st) pc :=
  fun F H locs ls hP hS hL => lv_tableOut F.1.1 F.1.2.1 hd h ht (kk F H locs ls hP hS hL)
theorem kV_tableIn {dflt lo hi : Int} {offs : Array Int} {len : Nat} {x : Int32} {off : Int} (tgt : Nat) (hd : decode cc pc = .ok (.tableswitch dflt lo hi offs, len)) (h1 : ¬ x.toInt < lo) (h2 : ¬ hi < x.toInt) (ho : offs[(x.toInt - lo).toNat]? = some off) (ht : (pc : Int) + off = (tgt : Int)) (kk : kV Y cc f lv st tgt) : kV Y cc f lv (.int x :: st) pc :=
  fun F H locs ls hP hS hL => lv_tableIn F.1.1 F.1.2.1 hd h1 h2 ho ht (kk F H locs ls hP hS hL)
theorem kV_nullc (pc' : Nat) (hd : decode cc pc = .ok (.aconst_null, 1)) (hp : pc + 1 = pc') (kk : kV Y cc f lv (.null :: st) pc') : kV Y cc f lv st pc :=
  fun F H locs ls hP hS hL => by subst hp; exact lv_null F.1.1 F.1.2.1 hd (kk F H locs ls hP hS hL)
theorem kV_ifnull {x : Nat} {off : Int} (pc' : Nat) (hd : decode cc pc = .ok (.ifnull off, 3)) (hp : pc + 3 = pc') (kk : kV Y cc f lv st pc') : kV Y cc f lv (.ref x :: st) pc :=
  fun F H locs ls hP hS hL => by subst hp; exact lv_ifnull F.1.1 F.1.2.1 hd (kk F H locs ls hP hS hL)
theorem kV_ifnullN {off : Int} (tgt : Nat) (hd : decode cc pc = .ok (.ifnull off, 3)) (ht : (pc : Int) + off = (tgt : Int)) (kk : kV Y cc f lv st tgt) : kV Y cc f lv (.null :: st) pc :=
  fun F H locs ls hP hS hL => lv_ifnullN F.1.1 F.1.2.1 hd ht (kk F H locs ls hP hS hL)
theorem kV_ifnonnull {x : Nat} {off : Int} (tgt : Nat) (hd : decode cc pc = .ok (.ifnonnull off, 3)) (ht : (pc : Int) + off = (tgt : Int)) (kk : kV Y cc f lv st tgt) : kV Y cc f lv (.ref x :: st) pc :=
  fun F H locs ls hP hS hL => lv_ifnonnull F.1.1 F.1.2.1 hd ht (kk F H locs ls hP hS hL)
theorem kV_ifnonnullN {off : Int} (pc' : Nat) (hd : decode cc pc = .ok (.ifnonnull off, 3)) (hp : pc + 3 = pc') (kk : kV Y cc f lv st pc') : kV Y cc f lv (.null :: st) pc :=
  fun F H locs ls hP hS hL => by subst hp; exact lv_ifnonnullN F.1.1 F.1.2.1 hd (kk F H locs ls hP hS hL)
theorem kV_iadd {x y : Int32} (pc' : Nat) (hd : decode cc pc = .ok (.iadd, 1)) (hp : pc + 1 = pc') (kk : kV Y cc f lv (.int (x + y) :: st) pc') : kV Y cc f lv (.int y :: .int x :: st) pc :=
  fun F H locs ls hP hS hL => by subst hp; exact lv_iadd F.1.1 F.1.2.1 hd (kk F H locs ls hP hS hL)
theorem kV_isub {x y : Int32} (pc' : Nat) (hd : decode cc pc = .ok (.isub, 1)) (hp : pc + 1 = pc') (kk : kV Y cc f lv (.int (x - y) :: st) pc') : kV Y cc f lv (.int y :: .int x :: st) pc :=
  fun F H locs ls hP hS hL => by subst hp; exact lv_isub F.1.1 F.1.2.1 hd (kk F H locs ls hP hS hL)
theorem kV_imul {x y : Int32} (pc' : Nat) (hd : decode cc pc = .ok (.imul, 1)) (hp : pc + 1 = pc') (kk : kV Y cc f lv (.int (x * y) :: st) pc') : kV Y cc f lv (.int y :: .int x :: st) pc :=
  fun F H locs ls hP hS hL => by subst hp; exact lv_imul F.1.1 F.1.2.1 hd (kk F H locs ls hP hS hL)
theorem kV_iand {x y : Int32} (pc' : Nat) (hd : decode cc pc = .ok (.iand, 1)) (hp : pc + 1 = pc') (kk : kV Y cc f lv (.int (x &&& y) :: st) pc') : kV Y cc f lv (.int y :: .int x :: st) pc :=
  fun F H locs ls hP hS hL => by subst hp; exact lv_iand F.1.1 F.1.2.1 hd (kk F H locs ls hP hS hL)
theorem kV_ior {x y : Int32} (pc' : Nat) (hd : decode cc pc = .ok (.ior, 1)) (hp : pc + 1 = pc') (kk : kV Y cc f lv (.int (x ||| y) :: st) pc') : kV Y cc f lv (.int y :: .int x :: st) pc :=
  fun F H locs ls hP hS hL => by subst hp; exact lv_ior F.1.1 F.1.2.1 hd (kk F H locs ls hP hS hL)
theorem kV_ixor {x y : Int32} (pc' : Nat) (hd : decode cc pc = .ok (.ixor, 1)) (hp : pc + 1 = pc') (kk : kV Y cc f lv (.int (x ^^^ y) :: st) pc') : kV Y cc f lv (.int y :: .int x :: st) pc :=
  fun F H locs ls hP hS hL => by subst hp; exact lv_ixor F.1.1 F.1.2.1 hd (kk F H locs ls hP hS hL)
theorem kV_ishl {x y : Int32} (pc' : Nat) (hd : decode cc pc = .ok (.ishl, 1)) (hp : pc + 1 = pc') (kk : kV Y cc f lv (.int (x <<< (y &&& 31)) :: st) pc') : kV Y cc f lv (.int y :: .int x :: st) pc :=
  fun F H locs ls hP hS hL => by subst hp; exact lv_ishl F.1.1 F.1.2.1 hd (kk F H locs ls hP hS hL)
theorem kV_ishr {x y : Int32} (pc' : Nat) (hd : decode cc pc = .ok (.ishr, 1)) (hp : pc + 1 = pc') (kk : kV Y cc f lv (.int (x >>> (y &&& 31)) :: st) pc') : kV Y cc f lv (.int y :: .int x :: st) pc :=
  fun F H locs ls hP hS hL => by subst hp; exact lv_ishr F.1.1 F.1.2.1 hd (kk F H locs ls hP hS hL)
def kus (x y : Int32) : Int32 := (x.toUInt32 >>> (y.toUInt32 &&& Int32.toUInt32 31)).toInt32
theorem kV_iushr {x y : Int32} (pc' : Nat) (hd : decode cc pc = .ok (.iushr, 1)) (hp : pc + 1 = pc') (kk : kV Y cc f lv (.int (kus x y) :: st) pc') : kV Y cc f lv (.int y :: .int x :: st) pc :=
  fun F H locs ls hP hS hL => by subst hp; exact lv_iushr F.1.1 F.1.2.1 hd rfl (kk F H locs ls hP hS hL)
theorem kV_idiv {x y : Int32} (pc' : Nat) (hd : decode cc pc = .ok (.idiv, 1)) (hne : ¬ y = 0) (hp : pc + 1 = pc') (kk : kV Y cc f lv (.int (x / y) :: st) pc') : kV Y cc f lv (.int y :: .int x :: st) pc :=
  fun F H locs ls hP hS hL => by subst hp; exact lv_idiv F.1.1 F.1.2.1 hd hne (kk F H locs ls hP hS hL)
theorem kV_irem {x y : Int32} (pc' : Nat) (hd : decode cc pc = .ok (.irem, 1)) (hne : ¬ y = 0) (hp : pc + 1 = pc') (kk : kV Y cc f lv (.int (x - x / y * y) :: st) pc') : kV Y cc f lv (.int y :: .int x :: st) pc :=
  fun F H locs ls hP hS hL => by subst hp; exact lv_irem F.1.1 F.1.2.1 hd hne (kk F H locs ls hP hS hL)
theorem kV_icmp_eq_t {x y : Int32} {off : Int} (tgt : Nat) (hd : decode cc pc = .ok (.if_icmp .eq off, 3)) (ht : (pc : Int) + off = (tgt : Int)) (hc : x = y) (kk : kV Y cc f lv st tgt) : kV Y cc f lv (.int y :: .int x :: st) pc :=
  fun F H locs ls hP hS hL => lv_icmp_eq F.1.1 F.1.2.1 hd ht (fun _ => kk F H locs ls hP hS hL) (fun h => by first | exact absurd hc h | exact absurd h hc)
theorem kV_icmp_eq_f {x y : Int32} {off : Int} (tgt pc' : Nat) (hd : decode cc pc = .ok (.if_icmp .eq off, 3)) (ht : (pc : Int) + off = (tgt : Int)) (hc : ¬ x = y) (hp : pc + 3 = pc') (kk : kV Y cc f lv st pc') : kV Y cc f lv (.int y :: .int x :: st) pc :=
  fun F H locs ls hP hS hL => by
    subst hp
    exact lv_icmp_eq F.1.1 F.1.2.1 hd ht (fun h => by first | exact absurd hc h | exact absurd h hc) (fun _ => kk F H locs ls hP hS hL)
theorem kV_if_eq_t {x : Int32} {off : Int} (tgt : Nat) (hd : decode cc pc = .ok (.ifCond .eq off, 3)) (ht : (pc : Int) + off = (tgt : Int)) (hc : x = 0) (kk : kV Y cc f lv st tgt) : kV Y cc f lv (.int x :: st) pc :=
  fun F H locs ls hP hS hL => lv_if_eq F.1.1 F.1.2.1 hd ht (fun _ => kk F H locs ls hP hS hL) (fun h => by first | exact absurd hc h | exact absurd h hc)
theorem kV_if_eq_f {x : Int32} {off : Int} (tgt pc' : Nat) (hd : decode cc pc = .ok (.ifCond .eq off, 3)) (ht : (pc : Int) + off = (tgt : Int)) (hc : ¬ x = 0) (hp : pc + 3 = pc') (kk : kV Y cc f lv st pc') : kV Y cc f lv (.int x :: st) pc :=
  fun F H locs ls hP hS hL => by
    subst hp
    exact lv_if_eq F.1.1 F.1.2.1 hd ht (fun h => by first | exact absurd hc h | exact absurd h hc) (fun _ => kk F H locs ls hP hS hL)
theorem kV_icmp_ne_t {x y : Int32} {off : Int} (tgt : Nat) (hd : decode cc pc = .ok (.if_icmp .ne off, 3)) (ht : (pc : Int) + off = (tgt : Int)) (hc : ¬ x = y) (kk : kV Y cc f lv st tgt) : kV Y cc f lv (.int y :: .int x :: st) pc :=
  fun F H locs ls hP hS hL => lv_icmp_ne F.1.1 F.1.2.1 hd ht (fun _ => kk F H locs ls hP hS hL) (fun h => by first | exact absurd hc h | exact absurd h hc)
theorem kV_icmp_ne_f {x y : Int32} {off : Int} (tgt pc' : Nat) (hd : decode cc pc = .ok (.if_icmp .ne off, 3)) (ht : (pc : Int) + off = (tgt : Int)) (hc : x = y) (hp : pc + 3 = pc') (kk : kV Y cc f lv st pc') : kV Y cc f lv (.int y :: .int x :: st) pc :=
  fun F H locs ls hP hS hL => by
    subst hp
    exact lv_icmp_ne F.1.1 F.1.2.1 hd ht (fun h => by first | exact absurd hc h | exact absurd h hc) (fun _ => kk F H locs ls hP hS hL)
theorem kV_if_ne_t {x : Int32} {off : Int} (tgt : Nat) (hd : decode cc pc = .ok (.ifCond .ne off, 3)) (ht : (pc : Int) + off = (tgt : Int)) (hc : ¬ x = 0) (kk : kV Y cc f lv st tgt) : kV Y cc f lv (.int x :: st) pc :=
  fun F H locs ls hP hS hL => lv_if_ne F.1.1 F.1.2.1 hd ht (fun _ => kk F H locs ls hP hS hL) (fun h => by first | exact absurd hc h | exact absurd h hc)
theorem kV_if_ne_f {x : Int32} {off : Int} (tgt pc' : Nat) (hd : decode cc pc = .ok (.ifCond .ne off, 3)) (ht : (pc : Int) + off = (tgt : Int)) (hc : x = 0) (hp : pc + 3 = pc') (kk : kV Y cc f lv st pc') : kV Y cc f lv (.int x :: st) pc :=
  fun F H locs ls hP hS hL => by
    subst hp
    exact lv_if_ne F.1.1 F.1.2.1 hd ht (fun h => by first | exact absurd hc h | exact absurd h hc) (fun _ => kk F H locs ls hP hS hL)
theorem kV_icmp_lt_t {x y : Int32} {off : Int} (tgt : Nat) (hd : decode cc pc = .ok (.if_icmp .lt off, 3)) (ht : (pc : Int) + off = (tgt : Int)) (hc : x < y) (kk : kV Y cc f lv st tgt) : kV Y cc f lv (.int y :: .int x :: st) pc :=
  fun F H locs ls hP hS hL => lv_icmp_lt F.1.1 F.1.2.1 hd ht (fun _ => kk F H locs ls hP hS hL) (fun h => by first | exact absurd hc h | exact absurd h hc)
theorem kV_icmp_lt_f {x y : Int32} {off : Int} (tgt pc' : Nat) (hd : decode cc pc = .ok (.if_icmp .lt off, 3)) (ht : (pc : Int) + off = (tgt : Int)) (hc : ¬ x < y) (hp : pc + 3 = pc') (kk : kV Y cc f lv st pc') : kV Y cc f lv (.int y :: .int x :: st) pc :=
  fun F H locs ls hP hS hL => by
    subst hp
    exact lv_icmp_lt F.1.1 F.1.2.1 hd ht (fun h => by first | exact absurd hc h | exact absurd h hc) (fun _ => kk F H locs ls hP hS hL)
theorem kV_if_lt_t {x : Int32} {off : Int} (tgt : Nat) (hd : decode cc pc = .ok (.ifCond .lt off, 3)) (ht : (pc : Int) + off = (tgt : Int)) (hc : x < 0) (kk : kV Y cc f lv st tgt) : kV Y cc f lv (.int x :: st) pc :=
  fun F H locs ls hP hS hL => lv_if_lt F.1.1 F.1.2.1 hd ht (fun _ => kk F H locs ls hP hS hL) (fun h => by first | exact absurd hc h | exact absurd h hc)
theorem kV_if_lt_f {x : Int32} {off : Int} (tgt pc' : Nat) (hd : decode cc pc = .ok (.ifCond .lt off, 3)) (ht : (pc : Int) + off = (tgt : Int)) (hc : ¬ x < 0) (hp : pc + 3 = pc') (kk : kV Y cc f lv st pc') : kV Y cc f lv (.int x :: st) pc :=
  fun F H locs ls hP hS hL => by
    subst hp
    exact lv_if_lt F.1.1 F.1.2.1 hd ht (fun h => by first | exact absurd hc h | exact absurd h hc) (fun _ => kk F H locs ls hP hS hL)
theorem kV_icmp_ge_t {x y : Int32} {off : Int} (tgt : Nat) (hd : decode cc pc = .ok (.if_icmp .ge off, 3)) (ht : (pc : Int) + off = (tgt : Int)) (hc : y ≤ x) (kk : kV Y cc f lv st tgt) : kV Y cc f lv (.int y :: .int x :: st) pc :=
  fun F H locs ls hP hS hL => lv_icmp_ge F.1.1 F.1.2.1 hd ht (fun _ => kk F H locs ls hP hS hL) (fun h => by first | exact absurd hc h | exact absurd h hc)
theorem kV_icmp_ge_f {x y : Int32} {off : Int} (tgt pc' : Nat) (hd : decode cc pc = .ok (.if_icmp .ge off, 3)) (ht : (pc : Int) + off = (tgt : Int)) (hc : ¬ y ≤ x) (hp : pc + 3 = pc') (kk : kV Y cc f lv st pc') : kV Y cc f lv (.int y :: .int x :: st) pc :=
  fun F H locs ls hP hS hL => by
    subst hp
    exact lv_icmp_ge F.1.1 F.1.2.1 hd ht (fun h => by first | exact absurd hc h | exact absurd h hc) (fun _ => kk F H locs ls hP hS hL)
theorem kV_if_ge_t {x : Int32} {off : Int} (tgt : Nat) (hd : decode cc pc = .ok (.ifCond .ge off, 3)) (ht : (pc : Int) + off = (tgt : Int)) (hc : 0 ≤ x) (kk : kV Y cc f lv st tgt) : kV Y cc f lv (.int x :: st) pc :=
  fun F H locs ls hP hS hL => lv_if_ge F.1.1 F.1.2.1 hd ht (fun _ => kk F H locs ls hP hS hL) (fun h => by first | exact absurd hc h | exact absurd h hc)
theorem kV_if_ge_f {x : Int32} {off : Int} (tgt pc' : Nat) (hd : decode cc pc = .ok (.ifCond .ge off, 3)) (ht : (pc : Int) + off = (tgt : Int)) (hc : ¬ 0 ≤ x) (hp : pc + 3 = pc') (kk : kV Y cc f lv st pc') : kV Y cc f lv (.int x :: st) pc :=
  fun F H locs ls hP hS hL => by
    subst hp
    exact lv_if_ge F.1.1 F.1.2.1 hd ht (fun h => by first | exact absurd hc h | exact absurd h hc) (fun _ => kk F H locs ls hP hS hL)
theorem kV_icmp_gt_t {x y : Int32} {off : Int} (tgt : Nat) (hd : decode cc pc = .ok (.if_icmp .gt off, 3)) (ht : (pc : Int) + off = (tgt : Int)) (hc : y < x) (kk : kV Y cc f lv st tgt) : kV Y cc f lv (.int y :: .int x :: st) pc :=
  fun F H locs ls hP hS hL => lv_icmp_gt F.1.1 F.1.2.1 hd ht (fun _ => kk F H locs ls hP hS hL) (fun h => by first | exact absurd hc h | exact absurd h hc)
theorem kV_icmp_gt_f {x y : Int32} {off : Int} (tgt pc' : Nat) (hd : decode cc pc = .ok (.if_icmp .gt off, 3)) (ht : (pc : Int) + off = (tgt : Int)) (hc : ¬ y < x) (hp : pc + 3 = pc') (kk : kV Y cc f lv st pc') : kV Y cc f lv (.int y :: .int x :: st) pc :=
  fun F H locs ls hP hS hL => by
    subst hp
    exact lv_icmp_gt F.1.1 F.1.2.1 hd ht (fun h => by first | exact absurd hc h | exact absurd h hc) (fun _ => kk F H locs ls hP hS hL)
theorem kV_if_gt_t {x : Int32} {off : Int} (tgt : Nat) (hd : decode cc pc = .ok (.ifCond .gt off, 3)) (ht : (pc : Int) + off = (tgt : Int)) (hc : 0 < x) (kk : kV Y cc f lv st tgt) : kV Y cc f lv (.int x :: st) pc :=
  fun F H locs ls hP hS hL => lv_if_gt F.1.1 F.1.2.1 hd ht (fun _ => kk F H locs ls hP hS hL) (fun h => by first | exact absurd hc h | exact absurd h hc)
theorem kV_if_gt_f {x : Int32} {off : Int} (tgt pc' : Nat) (hd : decode cc pc = .ok (.ifCond .gt off, 3)) (ht : (pc : Int) + off = (tgt : Int)) (hc : ¬ 0 < x) (hp : pc + 3 = pc') (kk : kV Y cc f lv st pc') : kV Y cc f lv (.int x :: st) pc :=
  fun F H locs ls hP hS hL => by
    subst hp
    exact lv_if_gt F.1.1 F.1.2.1 hd ht (fun h => by first | exact absurd hc h | exact absurd h hc) (fun _ => kk F H locs ls hP hS hL)
theorem kV_icmp_le_t {x y : Int32} {off : Int} (tgt : Nat) (hd : decode cc pc = .ok (.if_icmp .le off, 3)) (ht : (pc : Int) + off = (tgt : Int)) (hc : x ≤ y) (kk : kV Y cc f lv st tgt) : kV Y cc f lv (.int y :: .int x :: st) pc :=
  fun F H locs ls hP hS hL => lv_icmp_le F.1.1 F.1.2.1 hd ht (fun _ => kk F H locs ls hP hS hL) (fun h => by first | exact absurd hc h | exact absurd h hc)
theorem kV_icmp_le_f {x y : Int32} {off : Int} (tgt pc' : Nat) (hd : decode cc pc = .ok (.if_icmp .le off, 3)) (ht : (pc : Int) + off = (tgt : Int)) (hc : ¬ x ≤ y) (hp : pc + 3 = pc') (kk : kV Y cc f lv st pc') : kV Y cc f lv (.int y :: .int x :: st) pc :=
  fun F H locs ls hP hS hL => by
    subst hp
    exact lv_icmp_le F.1.1 F.1.2.1 hd ht (fun h => by first | exact absurd hc h | exact absurd h hc) (fun _ => kk F H locs ls hP hS hL)
theorem kV_if_le_t {x : Int32} {off : Int} (tgt : Nat) (hd : decode cc pc = .ok (.ifCond .le off, 3)) (ht : (pc : Int) + off = (tgt : Int)) (hc : x ≤ 0) (kk : kV Y cc f lv st tgt) : kV Y cc f lv (.int x :: st) pc :=
  fun F H locs ls hP hS hL => lv_if_le F.1.1 F.1.2.1 hd ht (fun _ => kk F H locs ls hP hS hL) (fun h => by first | exact absurd hc h | exact absurd h hc)
theorem kV_if_le_f {x : Int32} {off : Int} (tgt pc' : Nat) (hd : decode cc pc = .ok (.ifCond .le off, 3)) (ht : (pc : Int) + off = (tgt : Int)) (hc : ¬ x ≤ 0) (hp : pc + 3 = pc') (kk : kV Y cc f lv st pc') : kV Y cc f lv (.int x :: st) pc :=
  fun F H locs ls hP hS hL => by
    subst hp
    exact lv_if_le F.1.1 F.1.2.1 hd ht (fun h => by first | exact absurd hc h | exact absurd h hc) (fun _ => kk F H locs ls hP hS hL)
/-- an index that lies in a row, as a number that can be counted out -/
def kin (i : Int32) (n : Nat) : Bool := !(decide (i < 0)) && decide (i.toNatClampNeg < n)
theorem kin_vp {i : Int32} {n : Nat} (h : kin i n = true) : vp_in i n := by
  simp only [kin, Bool.and_eq_true, Bool.not_eq_true', decide_eq_false_iff_not, decide_eq_true_eq] at h
  exact fun q => q.elim h.1 (fun z => by omega)
theorem kV_get {own C : String} {T : u_T} {n ci index : Nat} {d : Nat} (k : Nat) {fs : List Value} {v : Value} (pc' : Nat) (hd : decode cc pc = .ok (.getfield index, 3)) (hin : ∀ w ∈ u_ws C T n, w ∈ wsL_law) (hc : vwCl[ci]? = some (C, T, n)) (hk : Nat.blt k n = true) (hown : ky_own Y = own) (hlink : Cond.fieldLink own index (T k).1 (T k).2.1 (T k).2.2.1 ∈ wsL_law)
    (hN : d < kg_N (ky_G Y)) (he : f d = .inr (ci, fs)) (hv : fs[k]? = some v) (hp : pc + 3 = pc') (kk : kV Y cc f lv (v :: st) pc') : kV Y cc f lv (.ref (kg_ad (ky_G Y) d) :: st) pc :=
  fun F H locs ls hP hS hL => by
    subst hp; subst hown
    exact va_get F.1.1 F.1.2.1 F.1.2.2.2.2 hin F.1.2.2.2.1 F.2.1 hP d (by rw [kwl_get hN, he]) hc k (Nat.le_of_ble_eq_true hk) (F.1.2.2.2.2 _ hlink) (fun _ h => h) hv hd (kk F H locs ls hP hS hL)
theorem kV_put {own C : String} {T : u_T} {n ci index : Nat} {d : Nat} (k : Nat) {ty : FieldType} {fs : List Value} {v : Value} (pc' : Nat) (hd : decode cc pc = .ok (.putfield index, 3)) (hin : ∀ w ∈ u_ws C T n, w ∈ wsL_law) (ty0 : Nat → FieldType) (hty : ∀ k, k < n → parseFieldDescriptor (T k).2.2.1 = some (ty0 k)) (hnm : ∀ a, a < n → ∀ b, b < n → a ≠ b → (T a).2.1 ≠ (T b).2.1) (hc : vwCl[ci]? = some (C, T, n)) (hk : Nat.blt k n = true) (hown : ky_own Y = own) (hlink : Cond.fieldLink own index (T k).1 (T k).2.1 (T k).2.2.1 ∈ wsL_law) (hfin : (T k).2.2.2 = false) (ht0 : ty0 k = ty) (hn : narrow ty v = v) (hfit : fits ty v = true)
    (hN : d < kg_N (ky_G Y)) (he : f d = .inr (ci, fs)) (hl : Nat.blt k fs.length = true) (hp : pc + 3 = pc') (kk : kV Y cc (va_up f d (.inr (ci, fs.set k v))) lv st pc') : kV Y cc f lv (v :: .ref (kg_ad (ky_G Y) d) :: st) pc :=
  fun F H locs ls hP hS hL => by
    subst hp; subst hown
    refine va_put F.1.1 F.1.2.1 F.1.2.2.2.2 hin ty0 hty hnm F.1.2.2.2.1 F.2.1 hP F.D hS d (by rw [kwl_get hN, he]) hc k (Nat.le_of_ble_eq_true hk) (F.1.2.2.2.2 _ hlink) (fun _ h => h) hfin (by rw [hty k (Nat.le_of_ble_eq_true hk), ht0]) hn hfit (Nat.le_of_ble_eq_true hl) hd (fun H1 locs1 hP1 _ hS1 => ?_)
    rw [kwl_set] at hP1
    exact kk F H1 locs1 ls hP1 hS1 hL
theorem kV_iald {d n : Nat} {g : Nat → Int32} {i : Int32} (pc' : Nat) (hd : decode cc pc = .ok (.iaload, 1)) (hN : d < kg_N (ky_G Y)) (he : f d = .inl (kg_I (ky_G Y), n, .inl g)) (hi : kin i n = true) (hp : pc + 1 = pc') (kk : kV Y cc f lv (.int (g i.toNatClampNeg) :: st) pc') : kV Y cc f lv (.int i :: .ref (kg_ad (ky_G Y) d) :: st) pc :=
  fun F H locs ls hP hS hL => by
    subst hp
    exact va_iald F.1.1 F.1.2.1 F.2.1 hP d 0 (by rw [kwl_get hN, he]) rfl (kin_vp hi) hd (kk F H locs ls hP hS hL)
theorem kV_zald {d n : Nat} {g : Nat → Int32} {i : Int32} (pc' : Nat) (hd : decode cc pc = .ok (.baload, 1)) (hN : d < kg_N (ky_G Y)) (he : f d = .inl (kg_Z (ky_G Y), n, .inl g)) (hi : kin i n = true) (hp : pc + 1 = pc') (kk : kV Y cc f lv (.int (g i.toNatClampNeg) :: st) pc') : kV Y cc f lv (.int i :: .ref (kg_ad (ky_G Y) d) :: st) pc :=
  fun F H locs ls hP hS hL => by
    subst hp
    exact va_zald F.1.1 F.1.2.1 F.2.1 hP d 1 (by rw [kwl_get hN, he]) rfl (kin_vp hi) hd (kk F H locs ls hP hS hL)
theorem kV_aald {d n : Nat} {g : Nat → Option Nat} {i : Int32} (pc' : Nat) (hd : decode cc pc = .ok (.aaload, 1)) (hN : d < kg_N (ky_G Y)) (he : f d = .inl (kg_F (ky_G Y), n, .inr (.inr (.inr (.inr g))))) (hi : kin i n = true) (hp : pc + 1 = pc') (kk : kV Y cc f lv (va_rf (g i.toNatClampNeg) :: st) pc') : kV Y cc f lv (.int i :: .ref (kg_ad (ky_G Y) d) :: st) pc :=
  fun F H locs ls hP hS hL => by
    subst hp
    exact va_aldq F.1.1 F.1.2.1 F.2.1 hP d 2 (by rw [kwl_get hN, he]) rfl (kin_vp hi) hd (kk F H locs ls hP hS hL)
theorem kV_alen {d : Nat} {x : vp_A} {t0 : Nat} {cA : ClassId} {ty : FieldType} {v : Int32} (pc' : Nat) (hd : decode cc pc = .ok (.arraylength, 1)) (hN : d < kg_N (ky_G Y)) (he : f d = .inl (cA, x)) (ht : (kg_tys (ky_G Y))[t0]? = some (cA, ty)) (hv : Int32.ofNat x.1 = v) (hp : pc + 1 = pc') (kk : kV Y cc f lv (.int v :: st) pc') : kV Y cc f lv (.ref (kg_ad (ky_G Y) d) :: st) pc :=
  fun F H locs ls hP hS hL => by
    subst hp; subst hv
    exact va_alen F.1.1 F.1.2.1 F.2.1 hP d t0 (by rw [kwl_get hN, he]) ht rfl hd (kk F H locs ls hP hS hL)
theorem kV_iast {d n : Nat} {g : Nat → Int32} {i x : Int32} (pc' : Nat) (hd : decode cc pc = .ok (.iastore, 1)) (hN : d < kg_N (ky_G Y)) (he : f d = .inl (kg_I (ky_G Y), n, .inl g)) (hi : kin i n = true) (hp : pc + 1 = pc') (kk : kV Y cc (va_up f d (.inl (kg_I (ky_G Y), n, .inl (upd g i.toNatClampNeg x)))) lv st pc') : kV Y cc f lv (.int x :: .int i :: .ref (kg_ad (ky_G Y) d) :: st) pc :=
  fun F H locs ls hP hS hL => by
    subst hp
    refine va_iast F.1.1 F.1.2.1 F.2.1 hP F.D hS d 0 (by rw [kwl_get hN, he]) rfl (kin_vp hi) hd (fun H1 locs1 hP1 _ hS1 => ?_)
    rw [kwl_set] at hP1
    exact kk F H1 locs1 ls hP1 hS1 hL
theorem kV_zast {d n : Nat} {g : Nat → Int32} {i x : Int32} (pc' : Nat) (hd : decode cc pc = .ok (.bastore, 1)) (hN : d < kg_N (ky_G Y)) (he : f d = .inl (kg_Z (ky_G Y), n, .inl g)) (hi : kin i n = true) (hp : pc + 1 = pc') (kk : kV Y cc (va_up f d (.inl (kg_Z (ky_G Y), n, .inl (upd g i.toNatClampNeg (x &&& 1))))) lv st pc') : kV Y cc f lv (.int x :: .int i :: .ref (kg_ad (ky_G Y) d) :: st) pc :=
  fun F H locs ls hP hS hL => by
    subst hp
    refine va_zast F.1.1 F.1.2.1 F.2.1 hP F.D hS d 1 (by rw [kwl_get hN, he]) rfl (kin_vp hi) hd (fun H1 locs1 hP1 _ hS1 => ?_)
    rw [kwl_set] at hP1
    exact kk F H1 locs1 ls hP1 hS1 hL
theorem kV_mmax {index : Nat} {x y : Int32} (pc' : Nat) (hd : decode cc pc = .ok (.invokestatic index, 3)) (hlink : Cond.methodLink (ky_own Y) index Lib.Math.max.name ∈ wsL_law) (hst : Nat.ble ((st.map fun v => v.category).sum) 8 = true) (hr : 1 ≤ (ky_R Y).frames ∧ 40 ≤ (ky_R Y).locals ∧ (ky_cs Y).1 ≤ (ky_R Y).cells ∧ (ky_cs Y).2 ≤ (ky_R Y).slots)
    (hst2 : Cond.static Lib.Math.max.name ∈ wsL_law) (hini : Cond.initialized "java/lang/Math" ∈ wsL_law) (hcode : Cond.code Lib.Math.max.name Lib.Math.max.code 2 (some .int) ∈ wsL_law) (hp : pc + 3 = pc') (kk : kV Y cc f lv (.int (if x < y then y else x) :: st) pc') : kV Y cc f lv (.int y :: .int x :: st) pc :=
  fun F H locs ls hP hS hL => by
    subst hp
    have hR : kx_R (ky_X Y) = ky_R Y := F.2.2.2.2.2.2.2.2
    have h8 := Nat.le_of_ble_eq_true hst
    exact va_mmax F.1.1 F.1.2.1 (F.1.2.2.1.trans hL.1.symm) F.1.2.2.2.1 (F.1.2.2.2.2 _ hlink) (F.1.2.2.2.2 _ hst2) (F.1.2.2.2.2 _ hini) (F.1.2.2.2.2 _ hcode) (by rw [hR]; exact hr.1) (by rw [hR]; have := hr.2.1; omega) (by rw [hR]; exact hr.2.2.1) (by rw [hR]; exact hr.2.2.2) hd (kk F H locs ls hP hS hL)
theorem kV_mmin {index : Nat} {x y : Int32} (pc' : Nat) (hd : decode cc pc = .ok (.invokestatic index, 3)) (hlink : Cond.methodLink (ky_own Y) index Lib.Math.min.name ∈ wsL_law) (hst : Nat.ble ((st.map fun v => v.category).sum) 8 = true) (hr : 1 ≤ (ky_R Y).frames ∧ 40 ≤ (ky_R Y).locals ∧ (ky_cs Y).1 ≤ (ky_R Y).cells ∧ (ky_cs Y).2 ≤ (ky_R Y).slots)
    (hst2 : Cond.static Lib.Math.min.name ∈ wsL_law) (hini : Cond.initialized "java/lang/Math" ∈ wsL_law) (hcode : Cond.code Lib.Math.min.name Lib.Math.min.code 2 (some .int) ∈ wsL_law) (hp : pc + 3 = pc') (kk : kV Y cc f lv (.int (if y < x then y else x) :: st) pc') : kV Y cc f lv (.int y :: .int x :: st) pc :=
  fun F H locs ls hP hS hL => by
    subst hp
    have hR : kx_R (ky_X Y) = ky_R Y := F.2.2.2.2.2.2.2.2
    have h8 := Nat.le_of_ble_eq_true hst
    exact va_mmin F.1.1 F.1.2.1 (F.1.2.2.1.trans hL.1.symm) F.1.2.2.2.1 (F.1.2.2.2.2 _ hlink) (F.1.2.2.2.2 _ hst2) (F.1.2.2.2.2 _ hini) (F.1.2.2.2.2 _ hcode) (by rw [hR]; exact hr.1) (by rw [hR]; have := hr.2.1; omega) (by rw [hR]; exact hr.2.2.1) (by rw [hR]; exact hr.2.2.2) hd (kk F H locs ls hP hS hL)
theorem kV_copy {index : Nat} {d0 d n0 n1 : Nat} {g0 g1 : Nat → Int32} {sp dp n : Int32} (pc' : Nat) (hd : decode cc pc = .ok (.invokestatic index, 3)) (hlink : Cond.methodLink (ky_own Y) index arraycopyName ∈ wsL_law) (hnat : Cond.native arraycopyName ∈ wsL_law) (hst2 : Cond.static arraycopyName ∈ wsL_law) (hini : Cond.initialized "java/lang/System" ∈ wsL_law) (hst : Nat.ble ((st.map fun v => v.category).sum) 8 = true) (hr : 1 ≤ (ky_R Y).frames ∧ 40 ≤ (ky_R Y).locals)
    (hN0 : d0 < kg_N (ky_G Y)) (hN : d < kg_N (ky_G Y)) (he0 : f d0 = .inl (kg_I (ky_G Y), n0, .inl g0)) (he : f d = .inl (kg_I (ky_G Y), n1, .inl g1)) (h1 : ¬ sp < 0) (h2 : ¬ dp < 0) (h3 : ¬ n < 0) (h4 : sp.toNatClampNeg + n.toNatClampNeg ≤ n0) (h5 : dp.toNatClampNeg + n.toNatClampNeg ≤ n1)
    (hp : pc + 3 = pc') (kk : kV Y cc (va_up f d (.inl (kg_I (ky_G Y), n1, .inl (va_cpy g0 g1 sp.toNatClampNeg dp.toNatClampNeg n.toNatClampNeg)))) lv st pc') : kV Y cc f lv (.int n :: .int dp :: .ref (kg_ad (ky_G Y) d) :: .int sp :: .ref (kg_ad (ky_G Y) d0) :: st) pc :=
  fun F H locs ls hP hS hL => by
    subst hp
    have hR : kx_R (ky_X Y) = ky_R Y := F.2.2.2.2.2.2.2.2
    have h8 := Nat.le_of_ble_eq_true hst
    have e : nativeFrameWords "java/lang/System" "arraycopy" 5 ≤ 20 := by decide +kernel
    have hfr : 1 ≤ (kx_R (ky_X Y)).frames := by rw [hR]; exact hr.1
    have hlo : (st.map fun v => v.category).sum + (nativeFrameWords "java/lang/System" "arraycopy" 5 + 11) ≤ (kx_R (ky_X Y)).locals := by rw [hR]; have := hr.2; omega
    refine va_copyi F.1.1 F.1.2.1 (F.1.2.2.1.trans hL.1.symm) F.1.2.2.2.1 (F.1.2.2.2.2 _ hlink) (F.1.2.2.2.2 _ hnat) (F.1.2.2.2.2 _ hst2) (F.1.2.2.2.2 _ hini) F.2.1 hP F.D hS d0 d 0 0 (by rw [kwl_get hN0, he0]) (by rw [kwl_get hN, he]) rfl rfl rfl h1 h2 h3 h4 h5 (fun _ _ => rfl) hfr hlo hd (fun H1 locs1 hP1 _ hS1 => ?_)
    rw [kwl_set] at hP1
    exact kk F H1 locs1 ls hP1 hS1 hL
end KROWS
