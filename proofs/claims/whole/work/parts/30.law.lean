/-! the law: its loop, over an invariant whose steps are given -/
def R_law : String := "TalkKeeperLaw"
section KLAW
variable {X : kX} {own : String} {nL : Nat} {ret : Option FieldType} {G : kG} {R : Room} {cs : Nat × Nat} {Q : State → Prop} {cc : ByteArray} {f : Nat → va_E} {lv : List (Option Value)} {st : List Value} {pc : Nat} {b L : Nat} {xs : Nat → Int32}
theorem nI_addlit {m j : Nat} {c : Int32} (hc : c = nI j) : nI m + c = nI (m + j) := by rw [hc, nI_add]
theorem kV_sld {m j : Nat} {c : Int32} (pc' : Nat) (hd : decode cc pc = .ok (.iaload, 1)) (hX : va_X b L xs (kx_s X) (kx_s X).heap) (hbl : b < (kx_s X).heap.size) (hbA : ¬ kg_b G ≤ b) (hc : c = nI j) (hm : m + j < L) (hL : L ≤ 3072) (hp : pc + 1 = pc') (kk : kV (X, own, nL, ret, G, R, cs, Q) cc f lv (.int (xs (m + j)) :: st) pc') : kV (X, own, nL, ret, G, R, cs, Q) cc f lv (.int (nI m + c) :: .ref b :: st) pc :=
  fun F H locs ls hP hS hLs => by
    subst hp
    have h31 : m + j < 2 ^ 31 := by omega
    rw [nI_addlit hc]
    refine va_sld F.1.1 F.1.2.1 hX hbl hbA hS (vp_in_nI hm (by omega)) hd ?_
    rw [nI_clamp h31]
    exact kk F H locs ls hP hS hLs
theorem kV_sld0 {m : Nat} (pc' : Nat) (hd : decode cc pc = .ok (.iaload, 1)) (hX : va_X b L xs (kx_s X) (kx_s X).heap) (hbl : b < (kx_s X).heap.size) (hbA : ¬ kg_b G ≤ b) (hm : m < L) (hL : L ≤ 3072) (hp : pc + 1 = pc') (kk : kV (X, own, nL, ret, G, R, cs, Q) cc f lv (.int (xs m) :: st) pc') : kV (X, own, nL, ret, G, R, cs, Q) cc f lv (.int (nI m) :: .ref b :: st) pc :=
  fun F H locs ls hP hS hLs => by
    subst hp
    have h31 : m < 2 ^ 31 := by omega
    refine va_sld F.1.1 F.1.2.1 hX hbl hbA hS (vp_in_nI hm (by omega)) hd ?_
    rw [nI_clamp h31]
    exact kk F H locs ls hP hS hLs
theorem kV_slen (pc' : Nat) (hd : decode cc pc = .ok (.arraylength, 1)) (hX : va_X b L xs (kx_s X) (kx_s X).heap) (hbl : b < (kx_s X).heap.size) (hbA : ¬ kg_b G ≤ b) (hp : pc + 1 = pc') (kk : kV (X, own, nL, ret, G, R, cs, Q) cc f lv (.int (nI L) :: st) pc') : kV (X, own, nL, ret, G, R, cs, Q) cc f lv (.ref b :: st) pc :=
  fun F H locs ls hP hS hLs => by
    subst hp
    exact va_slen F.1.1 F.1.2.1 hX hbl hbA hS hd (kk F H locs ls hP hS hLs)
theorem kD_inj {ad : Nat → Nat} {N : Nat} {f : Nat → va_E} {A : Nat → Prop} (h : va_D A (kwl ad N f)) : (∀ i j, i < N → j < N → ad i = ad j → i = j) ∧ ∀ d, d < N → A (ad d) :=
  ⟨fun i j hi hj hij => h.1 i j _ _ (kwl_get hi) (kwl_get hj) hij, fun d hd => h.2 d _ (kwl_get hd)⟩
theorem kV_form {β : Nat} {ad : Nat → Nat} {D : va_G} {cI cZ cF : ClassId} {n : Nat} {S : kS} {index : Nat} (pc' : Nat) (hd : decode cc pc = .ok (.invokevirtual index, 3)) (hAO : va_AO RX0 (kx_s X)) (hn : n < 3) (hx : kI S 0 1 = nI n) (hlink : Cond.methodLink own index yX5_form ∈ wsL_law) (hst : Nat.ble ((st.map fun v => v.category).sum) 8 = true) (hR : 3 ≤ R.frames ∧ 120 ≤ R.locals) (hC : cs.1 + 14 ≤ R.cells ∧ cs.2 + 203 ≤ R.slots) (hp : pc + 3 = pc')
    (kk : ∀ ad' : Nat → Nat, (∀ d, d < 55 + 14 * n → ad' d = ad d) → kV (X, own, nL, ret, (β, ad', 55 + 14 * (n + 1), D, cI, cZ, cF), R, (cs.1 + 14, cs.2 + 203), Q) cc (kgl (β, ad', 55 + 14 * (n + 1), D, cI, cZ, cF) (n + 1) (kNew n S)) lv (.int (nI n) :: st) pc') : kV (X, own, nL, ret, (β, ad, 55 + 14 * n, D, cI, cZ, cF), R, cs, Q) cc (kgl (β, ad, 55 + 14 * n, D, cI, cZ, cF) n S) lv (.ref (ad (kbo 0)) :: st) pc :=
  fun F H locs ls hP hS hLs => by
    subst hp
    obtain ⟨⟨m1, m2, m3, m4⟩, m5, m6, m7⟩ := kmvX5_form
    have hRe : kx_R X = R := F.2.2.2.2.2.2.2.2
    have hrf : (kcr 2 14 203).frames + 1 ≤ (kx_R X).frames ∧ 8 + (1 + 11) + (kcr 2 14 203).locals ≤ (kx_R X).locals := by
      rw [hRe]; simp only [kcr]; omega
    have cw : CallW (kx_R X) (kx_s X) (kx_a X) own RX5 index yX5_form mX5_form.2.1 mX5_form.2.2.1 mX5_form.2.2.2 (Cond.code mX5_form.1 mX5_form.2.1 mX5_form.2.2.1 mX5_form.2.2.2 :: wsL_law) (kcr 2 14 203) 14 203 0 := ⟨callB_of 0 F.1.2.2.2.2 (wg_good m1) rfl rfl rfl (F.1.2.2.2.2 _ m2) (F.1.2.2.2.2 _ hlink) m3 hrf, F.1.2.2.2.2 _ m5, F.1.2.2.2.2 _ m6⟩
    have hN0 : kbo 0 < 55 + 14 * n := by show 0 < _; omega
    have hrec := va_recv F.2.1 hP (ci := 5) (q := (RX5, TX5, 14)) rfl (he := by rw [kwl_get hN0, kgl_obj]; rfl)
    have hb : ∀ U : State, U.heap = H → (kx_s X).WarmedH U.vm → va_Pc [.ref (ad (kbo 0))] (kRw β D [(cI, .int), (cZ, .boolean), (cF, .object RX0)] (kwl ad (55 + 14 * n) (kgl (β, ad, 55 + 14 * n, D, cI, cZ, cF) n S))) (Value.ref (ad (kbo 0)) :: []).toArray U := fun U hU hW =>
      ⟨rfl, by rw [hU]; exact hP, F.D, va_K.moved hW.alike F.2.1, F.2.2.1.warm hW, va_AO.moved hW.alike hAO, by rw [hU]; exact Nat.le_trans F.2.2.2.2.2.1 hS.1⟩
    have hr := va_runV (rest := st) (b := ad (kbo 0)) (As := []) (g := F0 (kx_m X) pc ls (.ref (ad (kbo 0)) :: st)) F.1 (okX5_form (l := X.2.1) (β := β) (D := D) (cI := cI) (cZ := cZ) (cF := cF) (ad := ad) 0 hn hx) cw ⟨kRw_blind _ _ _ _ _, hrec, hb⟩ rfl rfl hLs.1 rfl (lv_room (Nat.le_of_ble_eq_true hst)) hd (locs := locs) (cells := cs.1) (slots := cs.2) (e := X.2.2.1) (below := kx_b X) (meth := kx_t X) ⟨by rw [hRe]; exact hC.1, by rw [hRe]; exact hC.2⟩
    intro T hT X0
    obtain ⟨v, st₀, t, T', Lc, h0, X', hL', e1, e2, ⟨⟨hv, tys', ws', ⟨rfl, ad', had, rfl⟩, hRp⟩, hz, hk⟩, stp⟩ := hr T hT X0
    cases hv
    rw [h0] at hz hk
    have hS' : va_S (fun q => β ≤ q) (kx_s X).heap T'.heap (locs ++ Lc) := ⟨Nat.le_trans hS.1 (by rw [e1]; exact hz), fun q h1 h2 => by rw [e1, hk q (Nat.lt_of_lt_of_le h1 hS.1) h2]; exact hS.2.1 q h1 h2, fun q hq => by
        rcases List.mem_append.mp hq with h | h
        · exact hS.2.2 q h
        · exact hL' q h⟩
    have hg := kD_inj hRp.2.1
    obtain ⟨t2, a1, b1⟩ := kk ad' had ⟨F.1, F.2.1, F.2.2.1, hg.1, hg.2, F.2.2.2.2.2⟩ T'.heap (locs ++ Lc) ls (by rw [e1]; exact hRp.1) hS' hLs T' rfl X'
    exact ⟨t2, stp t2 a1, b1⟩
end KLAW
theorem kr_frames : room_1.frames = 2048 := rfl
theorem kr_locals : room_1.locals = 84000 := rfl
theorem kr_cells : room_1.cells = 600000 := rfl
theorem kr_slots : room_1.slots = 7302250 := rfl
theorem law_place {X : kX} {G : kG} {cs : Nat × Nat} {Q : State → Prop} {b L k n : Nat} {xs : Nat → Int32} {S S1 S2 : kS} {r : Int32} (hX : va_X b L xs (kx_s X) (kx_s X).heap) (hbl : b < (kx_s X).heap.size) (hbA : ¬ kg_b G ≤ b) (hL : L ≤ 3072) (hk : 6 * k + 6 ≤ L) (hG : kg_N G = 55 + 14 * n) (hC : cs.1 ≤ room_1.cells ∧ cs.2 ≤ room_1.slots) (h1 : FX5_place n S (xs (6 * k + 1)) (xs (6 * k + 2)) (xs (6 * k + 3)) = some (r, S1)) (h2 : FX6_place S1 (xs (6 * k + 1)) (xs (6 * k + 2)) (xs (6 * k + 3)) = some (r, S2)) (kk : kV (X, RL, 4, some .boolean, G, room_1, cs, Q) code (kgl G n S2) [some (.ref b), some (.ref (kg_ad G (kbo 0))), some (.ref (kg_ad G (kbo 5))), some (.int (nI (6 * k)))] [] 721) : kV (X, RL, 4, some .boolean, G, room_1, cs, Q) code (kgl G n S) [some (.ref b), some (.ref (kg_ad G (kbo 0))), some (.ref (kg_ad G (kbo 5))), some (.int (nI (6 * k)))] [] 137 := by
  refine kV_aloadn 138 dL_law_137 rfl rfl ?_
  refine kV_aloadn 139 dL_law_138 rfl rfl ?_
  refine kV_iloadn 140 dL_law_139 rfl rfl ?_
  refine kV_iconst 141 dL_law_140 ic_1 rfl ?_
  refine kV_iadd 142 dL_law_141 rfl ?_
  refine kV_sld (j := 1) 143 dL_law_142 hX hbl hbA rfl (by omega) hL rfl ?_
  refine kV_aloadn 144 dL_law_143 rfl rfl ?_
  refine kV_iloadn 145 dL_law_144 rfl rfl ?_
  refine kV_iconst 146 dL_law_145 ic_2 rfl ?_
  refine kV_iadd 147 dL_law_146 rfl ?_
  refine kV_sld (j := 2) 148 dL_law_147 hX hbl hbA rfl (by omega) hL rfl ?_
  refine kV_aloadn 149 dL_law_148 rfl rfl ?_
  refine kV_iloadn 150 dL_law_149 rfl rfl ?_
  refine kV_iconst 151 dL_law_150 ic_3 rfl ?_
  refine kV_iadd 152 dL_law_151 rfl ?_
  refine kV_sld (j := 3) 153 dL_law_152 hX hbl hbA rfl (by omega) hL rfl ?_
  refine kV_callV (Y := (X, RL, 4, some .boolean, G, room_1, cs, Q)) (f' := kgl G n S1) (As := [.int (xs (6 * k + 1)), .int (xs (6 * k + 2)), .int (xs (6 * k + 3))]) (st := []) 156 dL_law_153 (okX5_place hG 0 h1) kmvX5_place (wi_r7 _ (List.mem_of_getElem? (i := 3) rfl)) (kN_obj (kOk_of hG (o := 0) rfl)) (kgl_obj G n _ 0) rfl rfl (by rw [kr_frames, kr_locals]; omega) hC rfl rfl ?_
  show kV (X, RL, 4, some .boolean, G, room_1, cs, Q) code (kgl G n S1) [some (.ref b), some (.ref (kg_ad G (kbo 0))), some (.ref (kg_ad G (kbo 5))), some (.int (nI (6 * k)))] [.int r] 156
  refine kV_aloadn 157 dL_law_156 rfl rfl ?_
  refine kV_aloadn 158 dL_law_157 rfl rfl ?_
  refine kV_iloadn 159 dL_law_158 rfl rfl ?_
  refine kV_iconst 160 dL_law_159 ic_1 rfl ?_
  refine kV_iadd 161 dL_law_160 rfl ?_
  refine kV_sld (j := 1) 162 dL_law_161 hX hbl hbA rfl (by omega) hL rfl ?_
  refine kV_aloadn 163 dL_law_162 rfl rfl ?_
  refine kV_iloadn 164 dL_law_163 rfl rfl ?_
  refine kV_iconst 165 dL_law_164 ic_2 rfl ?_
  refine kV_iadd 166 dL_law_165 rfl ?_
  refine kV_sld (j := 2) 167 dL_law_166 hX hbl hbA rfl (by omega) hL rfl ?_
  refine kV_aloadn 168 dL_law_167 rfl rfl ?_
  refine kV_iloadn 169 dL_law_168 rfl rfl ?_
  refine kV_iconst 170 dL_law_169 ic_3 rfl ?_
  refine kV_iadd 171 dL_law_170 rfl ?_
  refine kV_sld (j := 3) 172 dL_law_171 hX hbl hbA rfl (by omega) hL rfl ?_
  refine kV_callV (Y := (X, RL, 4, some .boolean, G, room_1, cs, Q)) (f' := kgl G n S2) (As := [.int (xs (6 * k + 1)), .int (xs (6 * k + 2)), .int (xs (6 * k + 3))]) (st := [.int r]) 175 dL_law_172 (okX6_place hG 0 h2) kmvX6_place (wi_r7 _ (List.mem_of_getElem? (i := 22) rfl)) (kN_obj (kOk_of hG (o := 5) rfl)) (kgl_obj G n _ 5) rfl rfl (by rw [kr_frames, kr_locals]; omega) hC rfl rfl ?_
  show kV (X, RL, 4, some .boolean, G, room_1, cs, Q) code (kgl G n S2) [some (.ref b), some (.ref (kg_ad G (kbo 0))), some (.ref (kg_ad G (kbo 5))), some (.int (nI (6 * k)))] [.int r, .int r] 175
  refine kV_icmp_eq_t 721 dL_law_175 (by decide) rfl ?_
  exact kk
theorem law_worked {X : kX} {G : kG} {cs : Nat × Nat} {Q : State → Prop} {b L k n : Nat} {xs : Nat → Int32} {S S1 S2 : kS} {r : Int32} (hX : va_X b L xs (kx_s X) (kx_s X).heap) (hbl : b < (kx_s X).heap.size) (hbA : ¬ kg_b G ≤ b) (hL : L ≤ 3072) (hk : 6 * k + 6 ≤ L) (hG : kg_N G = 55 + 14 * n) (hC : cs.1 ≤ room_1.cells ∧ cs.2 ≤ room_1.slots) (h1 : FX5_worked n S (xs (6 * k + 1)) (xs (6 * k + 2)) (xs (6 * k + 3)) (xs (6 * k + 4)) = some (r, S1)) (h2 : FX6_worked S1 (xs (6 * k + 1)) (xs (6 * k + 2)) (xs (6 * k + 3)) (xs (6 * k + 4)) = some (r, S2)) (kk : kV (X, RL, 4, some .boolean, G, room_1, cs, Q) code (kgl G n S2) [some (.ref b), some (.ref (kg_ad G (kbo 0))), some (.ref (kg_ad G (kbo 5))), some (.int (nI (6 * k)))] [] 721) : kV (X, RL, 4, some .boolean, G, room_1, cs, Q) code (kgl G n S) [some (.ref b), some (.ref (kg_ad G (kbo 0))), some (.ref (kg_ad G (kbo 5))), some (.int (nI (6 * k)))] [] 180 := by
  refine kV_aloadn 181 dL_law_180 rfl rfl ?_
  refine kV_aloadn 182 dL_law_181 rfl rfl ?_
  refine kV_iloadn 183 dL_law_182 rfl rfl ?_
  refine kV_iconst 184 dL_law_183 ic_1 rfl ?_
  refine kV_iadd 185 dL_law_184 rfl ?_
  refine kV_sld (j := 1) 186 dL_law_185 hX hbl hbA rfl (by omega) hL rfl ?_
  refine kV_aloadn 187 dL_law_186 rfl rfl ?_
  refine kV_iloadn 188 dL_law_187 rfl rfl ?_
  refine kV_iconst 189 dL_law_188 ic_2 rfl ?_
  refine kV_iadd 190 dL_law_189 rfl ?_
  refine kV_sld (j := 2) 191 dL_law_190 hX hbl hbA rfl (by omega) hL rfl ?_
  refine kV_aloadn 192 dL_law_191 rfl rfl ?_
  refine kV_iloadn 193 dL_law_192 rfl rfl ?_
  refine kV_iconst 194 dL_law_193 ic_3 rfl ?_
  refine kV_iadd 195 dL_law_194 rfl ?_
  refine kV_sld (j := 3) 196 dL_law_195 hX hbl hbA rfl (by omega) hL rfl ?_
  refine kV_aloadn 197 dL_law_196 rfl rfl ?_
  refine kV_iloadn 198 dL_law_197 rfl rfl ?_
  refine kV_iconst 199 dL_law_198 ic_4 rfl ?_
  refine kV_iadd 200 dL_law_199 rfl ?_
  refine kV_sld (j := 4) 201 dL_law_200 hX hbl hbA rfl (by omega) hL rfl ?_
  refine kV_callV (Y := (X, RL, 4, some .boolean, G, room_1, cs, Q)) (f' := kgl G n S1) (As := [.int (xs (6 * k + 1)), .int (xs (6 * k + 2)), .int (xs (6 * k + 3)), .int (xs (6 * k + 4))]) (st := []) 204 dL_law_201 (okX5_worked hG 0 h1) kmvX5_worked (wi_r8 _ (List.mem_of_getElem? (i := 18) rfl)) (kN_obj (kOk_of hG (o := 0) rfl)) (kgl_obj G n _ 0) rfl rfl (by rw [kr_frames, kr_locals]; omega) hC rfl rfl ?_
  show kV (X, RL, 4, some .boolean, G, room_1, cs, Q) code (kgl G n S1) [some (.ref b), some (.ref (kg_ad G (kbo 0))), some (.ref (kg_ad G (kbo 5))), some (.int (nI (6 * k)))] [.int r] 204
  refine kV_aloadn 205 dL_law_204 rfl rfl ?_
  refine kV_aloadn 206 dL_law_205 rfl rfl ?_
  refine kV_iloadn 207 dL_law_206 rfl rfl ?_
  refine kV_iconst 208 dL_law_207 ic_1 rfl ?_
  refine kV_iadd 209 dL_law_208 rfl ?_
  refine kV_sld (j := 1) 210 dL_law_209 hX hbl hbA rfl (by omega) hL rfl ?_
  refine kV_aloadn 211 dL_law_210 rfl rfl ?_
  refine kV_iloadn 212 dL_law_211 rfl rfl ?_
  refine kV_iconst 213 dL_law_212 ic_2 rfl ?_
  refine kV_iadd 214 dL_law_213 rfl ?_
  refine kV_sld (j := 2) 215 dL_law_214 hX hbl hbA rfl (by omega) hL rfl ?_
  refine kV_aloadn 216 dL_law_215 rfl rfl ?_
  refine kV_iloadn 217 dL_law_216 rfl rfl ?_
  refine kV_iconst 218 dL_law_217 ic_3 rfl ?_
  refine kV_iadd 219 dL_law_218 rfl ?_
  refine kV_sld (j := 3) 220 dL_law_219 hX hbl hbA rfl (by omega) hL rfl ?_
  refine kV_aloadn 221 dL_law_220 rfl rfl ?_
  refine kV_iloadn 222 dL_law_221 rfl rfl ?_
  refine kV_iconst 223 dL_law_222 ic_4 rfl ?_
  refine kV_iadd 224 dL_law_223 rfl ?_
  refine kV_sld (j := 4) 225 dL_law_224 hX hbl hbA rfl (by omega) hL rfl ?_
  refine kV_callV (Y := (X, RL, 4, some .boolean, G, room_1, cs, Q)) (f' := kgl G n S2) (As := [.int (xs (6 * k + 1)), .int (xs (6 * k + 2)), .int (xs (6 * k + 3)), .int (xs (6 * k + 4))]) (st := [.int r]) 228 dL_law_225 (okX6_worked hG 0 h2) kmvX6_worked (wi_r9 _ (List.mem_of_getElem? (i := 7) rfl)) (kN_obj (kOk_of hG (o := 5) rfl)) (kgl_obj G n _ 5) rfl rfl (by rw [kr_frames, kr_locals]; omega) hC rfl rfl ?_
  show kV (X, RL, 4, some .boolean, G, room_1, cs, Q) code (kgl G n S2) [some (.ref b), some (.ref (kg_ad G (kbo 0))), some (.ref (kg_ad G (kbo 5))), some (.int (nI (6 * k)))] [.int r, .int r] 228
  refine kV_icmp_eq_t 721 dL_law_228 (by decide) rfl ?_
  exact kk
theorem law_bar {X : kX} {G : kG} {cs : Nat × Nat} {Q : State → Prop} {b L k n : Nat} {xs : Nat → Int32} {S S1 S2 : kS} {r : Int32} (hX : va_X b L xs (kx_s X) (kx_s X).heap) (hbl : b < (kx_s X).heap.size) (hbA : ¬ kg_b G ≤ b) (hL : L ≤ 3072) (hk : 6 * k + 6 ≤ L) (hG : kg_N G = 55 + 14 * n) (hC : cs.1 ≤ room_1.cells ∧ cs.2 ≤ room_1.slots) (h1 : FX5_bar n S (xs (6 * k + 1)) (xs (6 * k + 2)) (xs (6 * k + 3)) (xs (6 * k + 4)) (xs (6 * k + 5)) = some (r, S1)) (h2 : FX6_bar S1 (xs (6 * k + 1)) (xs (6 * k + 2)) (xs (6 * k + 3)) (xs (6 * k + 4)) (xs (6 * k + 5)) = some (r, S2)) (kk : kV (X, RL, 4, some .boolean, G, room_1, cs, Q) code (kgl G n S2) [some (.ref b), some (.ref (kg_ad G (kbo 0))), some (.ref (kg_ad G (kbo 5))), some (.int (nI (6 * k)))] [] 721) : kV (X, RL, 4, some .boolean, G, room_1, cs, Q) code (kgl G n S) [some (.ref b), some (.ref (kg_ad G (kbo 0))), some (.ref (kg_ad G (kbo 5))), some (.int (nI (6 * k)))] [] 233 := by
  refine kV_aloadn 234 dL_law_233 rfl rfl ?_
  refine kV_aloadn 235 dL_law_234 rfl rfl ?_
  refine kV_iloadn 236 dL_law_235 rfl rfl ?_
  refine kV_iconst 237 dL_law_236 ic_1 rfl ?_
  refine kV_iadd 238 dL_law_237 rfl ?_
  refine kV_sld (j := 1) 239 dL_law_238 hX hbl hbA rfl (by omega) hL rfl ?_
  refine kV_aloadn 240 dL_law_239 rfl rfl ?_
  refine kV_iloadn 241 dL_law_240 rfl rfl ?_
  refine kV_iconst 242 dL_law_241 ic_2 rfl ?_
  refine kV_iadd 243 dL_law_242 rfl ?_
  refine kV_sld (j := 2) 244 dL_law_243 hX hbl hbA rfl (by omega) hL rfl ?_
  refine kV_aloadn 245 dL_law_244 rfl rfl ?_
  refine kV_iloadn 246 dL_law_245 rfl rfl ?_
  refine kV_iconst 247 dL_law_246 ic_3 rfl ?_
  refine kV_iadd 248 dL_law_247 rfl ?_
  refine kV_sld (j := 3) 249 dL_law_248 hX hbl hbA rfl (by omega) hL rfl ?_
  refine kV_aloadn 250 dL_law_249 rfl rfl ?_
  refine kV_iloadn 251 dL_law_250 rfl rfl ?_
  refine kV_iconst 252 dL_law_251 ic_4 rfl ?_
  refine kV_iadd 253 dL_law_252 rfl ?_
  refine kV_sld (j := 4) 254 dL_law_253 hX hbl hbA rfl (by omega) hL rfl ?_
  refine kV_aloadn 255 dL_law_254 rfl rfl ?_
  refine kV_iloadn 256 dL_law_255 rfl rfl ?_
  refine kV_iconst 257 dL_law_256 ic_5 rfl ?_
  refine kV_iadd 258 dL_law_257 rfl ?_
  refine kV_sld (j := 5) 259 dL_law_258 hX hbl hbA rfl (by omega) hL rfl ?_
  refine kV_callV (Y := (X, RL, 4, some .boolean, G, room_1, cs, Q)) (f' := kgl G n S1) (As := [.int (xs (6 * k + 1)), .int (xs (6 * k + 2)), .int (xs (6 * k + 3)), .int (xs (6 * k + 4)), .int (xs (6 * k + 5))]) (st := []) 262 dL_law_259 (okX5_bar hG 0 h1) kmvX5_bar (wi_r9 _ (List.mem_of_getElem? (i := 15) rfl)) (kN_obj (kOk_of hG (o := 0) rfl)) (kgl_obj G n _ 0) rfl rfl (by rw [kr_frames, kr_locals]; omega) hC rfl rfl ?_
  show kV (X, RL, 4, some .boolean, G, room_1, cs, Q) code (kgl G n S1) [some (.ref b), some (.ref (kg_ad G (kbo 0))), some (.ref (kg_ad G (kbo 5))), some (.int (nI (6 * k)))] [.int r] 262
  refine kV_aloadn 263 dL_law_262 rfl rfl ?_
  refine kV_aloadn 264 dL_law_263 rfl rfl ?_
  refine kV_iloadn 265 dL_law_264 rfl rfl ?_
  refine kV_iconst 266 dL_law_265 ic_1 rfl ?_
  refine kV_iadd 267 dL_law_266 rfl ?_
  refine kV_sld (j := 1) 268 dL_law_267 hX hbl hbA rfl (by omega) hL rfl ?_
  refine kV_aloadn 269 dL_law_268 rfl rfl ?_
  refine kV_iloadn 270 dL_law_269 rfl rfl ?_
  refine kV_iconst 271 dL_law_270 ic_2 rfl ?_
  refine kV_iadd 272 dL_law_271 rfl ?_
  refine kV_sld (j := 2) 273 dL_law_272 hX hbl hbA rfl (by omega) hL rfl ?_
  refine kV_aloadn 274 dL_law_273 rfl rfl ?_
  refine kV_iloadn 275 dL_law_274 rfl rfl ?_
  refine kV_iconst 276 dL_law_275 ic_3 rfl ?_
  refine kV_iadd 277 dL_law_276 rfl ?_
  refine kV_sld (j := 3) 278 dL_law_277 hX hbl hbA rfl (by omega) hL rfl ?_
  refine kV_aloadn 279 dL_law_278 rfl rfl ?_
  refine kV_iloadn 280 dL_law_279 rfl rfl ?_
  refine kV_iconst 281 dL_law_280 ic_4 rfl ?_
  refine kV_iadd 282 dL_law_281 rfl ?_
  refine kV_sld (j := 4) 283 dL_law_282 hX hbl hbA rfl (by omega) hL rfl ?_
  refine kV_aloadn 284 dL_law_283 rfl rfl ?_
  refine kV_iloadn 285 dL_law_284 rfl rfl ?_
  refine kV_iconst 286 dL_law_285 ic_5 rfl ?_
  refine kV_iadd 287 dL_law_286 rfl ?_
  refine kV_sld (j := 5) 288 dL_law_287 hX hbl hbA rfl (by omega) hL rfl ?_
  refine kV_callV (Y := (X, RL, 4, some .boolean, G, room_1, cs, Q)) (f' := kgl G n S2) (As := [.int (xs (6 * k + 1)), .int (xs (6 * k + 2)), .int (xs (6 * k + 3)), .int (xs (6 * k + 4)), .int (xs (6 * k + 5))]) (st := [.int r]) 291 dL_law_288 (okX6_bar hG 0 h2) kmvX6_bar (wi_r10 _ (List.mem_of_getElem? (i := 3) rfl)) (kN_obj (kOk_of hG (o := 5) rfl)) (kgl_obj G n _ 5) rfl rfl (by rw [kr_frames, kr_locals]; omega) hC rfl rfl ?_
  show kV (X, RL, 4, some .boolean, G, room_1, cs, Q) code (kgl G n S2) [some (.ref b), some (.ref (kg_ad G (kbo 0))), some (.ref (kg_ad G (kbo 5))), some (.int (nI (6 * k)))] [.int r, .int r] 291
  refine kV_icmp_eq_t 721 dL_law_291 (by decide) rfl ?_
  exact kk
theorem law_need {X : kX} {G : kG} {cs : Nat × Nat} {Q : State → Prop} {b L k n : Nat} {xs : Nat → Int32} {S S1 S2 : kS} {r : Int32} (hX : va_X b L xs (kx_s X) (kx_s X).heap) (hbl : b < (kx_s X).heap.size) (hbA : ¬ kg_b G ≤ b) (hL : L ≤ 3072) (hk : 6 * k + 6 ≤ L) (hG : kg_N G = 55 + 14 * n) (hC : cs.1 ≤ room_1.cells ∧ cs.2 ≤ room_1.slots) (h1 : FX5_need n S (xs (6 * k + 1)) (xs (6 * k + 2)) (xs (6 * k + 3)) (xs (6 * k + 4)) = some (r, S1)) (h2 : FX6_need S1 (xs (6 * k + 1)) (xs (6 * k + 2)) (xs (6 * k + 3)) (xs (6 * k + 4)) = some (r, S2)) (kk : kV (X, RL, 4, some .boolean, G, room_1, cs, Q) code (kgl G n S2) [some (.ref b), some (.ref (kg_ad G (kbo 0))), some (.ref (kg_ad G (kbo 5))), some (.int (nI (6 * k)))] [] 721) : kV (X, RL, 4, some .boolean, G, room_1, cs, Q) code (kgl G n S) [some (.ref b), some (.ref (kg_ad G (kbo 0))), some (.ref (kg_ad G (kbo 5))), some (.int (nI (6 * k)))] [] 296 := by
  refine kV_aloadn 297 dL_law_296 rfl rfl ?_
  refine kV_aloadn 298 dL_law_297 rfl rfl ?_
  refine kV_iloadn 299 dL_law_298 rfl rfl ?_
  refine kV_iconst 300 dL_law_299 ic_1 rfl ?_
  refine kV_iadd 301 dL_law_300 rfl ?_
  refine kV_sld (j := 1) 302 dL_law_301 hX hbl hbA rfl (by omega) hL rfl ?_
  refine kV_aloadn 303 dL_law_302 rfl rfl ?_
  refine kV_iloadn 304 dL_law_303 rfl rfl ?_
  refine kV_iconst 305 dL_law_304 ic_2 rfl ?_
  refine kV_iadd 306 dL_law_305 rfl ?_
  refine kV_sld (j := 2) 307 dL_law_306 hX hbl hbA rfl (by omega) hL rfl ?_
  refine kV_aloadn 308 dL_law_307 rfl rfl ?_
  refine kV_iloadn 309 dL_law_308 rfl rfl ?_
  refine kV_iconst 310 dL_law_309 ic_3 rfl ?_
  refine kV_iadd 311 dL_law_310 rfl ?_
  refine kV_sld (j := 3) 312 dL_law_311 hX hbl hbA rfl (by omega) hL rfl ?_
  refine kV_aloadn 313 dL_law_312 rfl rfl ?_
  refine kV_iloadn 314 dL_law_313 rfl rfl ?_
  refine kV_iconst 315 dL_law_314 ic_4 rfl ?_
  refine kV_iadd 316 dL_law_315 rfl ?_
  refine kV_sld (j := 4) 317 dL_law_316 hX hbl hbA rfl (by omega) hL rfl ?_
  refine kV_callV (Y := (X, RL, 4, some .boolean, G, room_1, cs, Q)) (f' := kgl G n S1) (As := [.int (xs (6 * k + 1)), .int (xs (6 * k + 2)), .int (xs (6 * k + 3)), .int (xs (6 * k + 4))]) (st := []) 320 dL_law_317 (okX5_need hG 0 h1) kmvX5_need (wi_r10 _ (List.mem_of_getElem? (i := 15) rfl)) (kN_obj (kOk_of hG (o := 0) rfl)) (kgl_obj G n _ 0) rfl rfl (by rw [kr_frames, kr_locals]; omega) hC rfl rfl ?_
  show kV (X, RL, 4, some .boolean, G, room_1, cs, Q) code (kgl G n S1) [some (.ref b), some (.ref (kg_ad G (kbo 0))), some (.ref (kg_ad G (kbo 5))), some (.int (nI (6 * k)))] [.int r] 320
  refine kV_aloadn 321 dL_law_320 rfl rfl ?_
  refine kV_aloadn 322 dL_law_321 rfl rfl ?_
  refine kV_iloadn 323 dL_law_322 rfl rfl ?_
  refine kV_iconst 324 dL_law_323 ic_1 rfl ?_
  refine kV_iadd 325 dL_law_324 rfl ?_
  refine kV_sld (j := 1) 326 dL_law_325 hX hbl hbA rfl (by omega) hL rfl ?_
  refine kV_aloadn 327 dL_law_326 rfl rfl ?_
  refine kV_iloadn 328 dL_law_327 rfl rfl ?_
  refine kV_iconst 329 dL_law_328 ic_2 rfl ?_
  refine kV_iadd 330 dL_law_329 rfl ?_
  refine kV_sld (j := 2) 331 dL_law_330 hX hbl hbA rfl (by omega) hL rfl ?_
  refine kV_aloadn 332 dL_law_331 rfl rfl ?_
  refine kV_iloadn 333 dL_law_332 rfl rfl ?_
  refine kV_iconst 334 dL_law_333 ic_3 rfl ?_
  refine kV_iadd 335 dL_law_334 rfl ?_
  refine kV_sld (j := 3) 336 dL_law_335 hX hbl hbA rfl (by omega) hL rfl ?_
  refine kV_aloadn 337 dL_law_336 rfl rfl ?_
  refine kV_iloadn 338 dL_law_337 rfl rfl ?_
  refine kV_iconst 339 dL_law_338 ic_4 rfl ?_
  refine kV_iadd 340 dL_law_339 rfl ?_
  refine kV_sld (j := 4) 341 dL_law_340 hX hbl hbA rfl (by omega) hL rfl ?_
  refine kV_callV (Y := (X, RL, 4, some .boolean, G, room_1, cs, Q)) (f' := kgl G n S2) (As := [.int (xs (6 * k + 1)), .int (xs (6 * k + 2)), .int (xs (6 * k + 3)), .int (xs (6 * k + 4))]) (st := [.int r]) 344 dL_law_341 (okX6_need hG 0 h2) kmvX6_need (wi_r10 _ (List.mem_of_getElem? (i := 19) rfl)) (kN_obj (kOk_of hG (o := 5) rfl)) (kgl_obj G n _ 5) rfl rfl (by rw [kr_frames, kr_locals]; omega) hC rfl rfl ?_
  show kV (X, RL, 4, some .boolean, G, room_1, cs, Q) code (kgl G n S2) [some (.ref b), some (.ref (kg_ad G (kbo 0))), some (.ref (kg_ad G (kbo 5))), some (.int (nI (6 * k)))] [.int r, .int r] 344
  refine kV_icmp_eq_t 721 dL_law_344 (by decide) rfl ?_
  exact kk
theorem law_word {X : kX} {G : kG} {cs : Nat × Nat} {Q : State → Prop} {b L k n : Nat} {xs : Nat → Int32} {S S1 S2 : kS} {r : Int32} (hX : va_X b L xs (kx_s X) (kx_s X).heap) (hbl : b < (kx_s X).heap.size) (hbA : ¬ kg_b G ≤ b) (hL : L ≤ 3072) (hk : 6 * k + 6 ≤ L) (hG : kg_N G = 55 + 14 * n) (hC : cs.1 ≤ room_1.cells ∧ cs.2 ≤ room_1.slots) (h1 : FX5_word n S (xs (6 * k + 1)) (xs (6 * k + 2)) (xs (6 * k + 3)) (xs (6 * k + 4)) = some (r, S1)) (h2 : FX6_word S1 (xs (6 * k + 1)) (xs (6 * k + 2)) (xs (6 * k + 3)) (xs (6 * k + 4)) = some (r, S2)) (kk : kV (X, RL, 4, some .boolean, G, room_1, cs, Q) code (kgl G n S2) [some (.ref b), some (.ref (kg_ad G (kbo 0))), some (.ref (kg_ad G (kbo 5))), some (.int (nI (6 * k)))] [] 721) : kV (X, RL, 4, some .boolean, G, room_1, cs, Q) code (kgl G n S) [some (.ref b), some (.ref (kg_ad G (kbo 0))), some (.ref (kg_ad G (kbo 5))), some (.int (nI (6 * k)))] [] 349 := by
  refine kV_aloadn 350 dL_law_349 rfl rfl ?_
  refine kV_aloadn 351 dL_law_350 rfl rfl ?_
  refine kV_iloadn 352 dL_law_351 rfl rfl ?_
  refine kV_iconst 353 dL_law_352 ic_1 rfl ?_
  refine kV_iadd 354 dL_law_353 rfl ?_
  refine kV_sld (j := 1) 355 dL_law_354 hX hbl hbA rfl (by omega) hL rfl ?_
  refine kV_aloadn 356 dL_law_355 rfl rfl ?_
  refine kV_iloadn 357 dL_law_356 rfl rfl ?_
  refine kV_iconst 358 dL_law_357 ic_2 rfl ?_
  refine kV_iadd 359 dL_law_358 rfl ?_
  refine kV_sld (j := 2) 360 dL_law_359 hX hbl hbA rfl (by omega) hL rfl ?_
  refine kV_aloadn 361 dL_law_360 rfl rfl ?_
  refine kV_iloadn 362 dL_law_361 rfl rfl ?_
  refine kV_iconst 363 dL_law_362 ic_3 rfl ?_
  refine kV_iadd 364 dL_law_363 rfl ?_
  refine kV_sld (j := 3) 365 dL_law_364 hX hbl hbA rfl (by omega) hL rfl ?_
  refine kV_aloadn 366 dL_law_365 rfl rfl ?_
  refine kV_iloadn 367 dL_law_366 rfl rfl ?_
  refine kV_iconst 368 dL_law_367 ic_4 rfl ?_
  refine kV_iadd 369 dL_law_368 rfl ?_
  refine kV_sld (j := 4) 370 dL_law_369 hX hbl hbA rfl (by omega) hL rfl ?_
  refine kV_callV (Y := (X, RL, 4, some .boolean, G, room_1, cs, Q)) (f' := kgl G n S1) (As := [.int (xs (6 * k + 1)), .int (xs (6 * k + 2)), .int (xs (6 * k + 3)), .int (xs (6 * k + 4))]) (st := []) 373 dL_law_370 (okX5_word hG 0 h1) kmvX5_word (wi_r10 _ (List.mem_of_getElem? (i := 23) rfl)) (kN_obj (kOk_of hG (o := 0) rfl)) (kgl_obj G n _ 0) rfl rfl (by rw [kr_frames, kr_locals]; omega) hC rfl rfl ?_
  show kV (X, RL, 4, some .boolean, G, room_1, cs, Q) code (kgl G n S1) [some (.ref b), some (.ref (kg_ad G (kbo 0))), some (.ref (kg_ad G (kbo 5))), some (.int (nI (6 * k)))] [.int r] 373
  refine kV_aloadn 374 dL_law_373 rfl rfl ?_
  refine kV_aloadn 375 dL_law_374 rfl rfl ?_
  refine kV_iloadn 376 dL_law_375 rfl rfl ?_
  refine kV_iconst 377 dL_law_376 ic_1 rfl ?_
  refine kV_iadd 378 dL_law_377 rfl ?_
  refine kV_sld (j := 1) 379 dL_law_378 hX hbl hbA rfl (by omega) hL rfl ?_
  refine kV_aloadn 380 dL_law_379 rfl rfl ?_
  refine kV_iloadn 381 dL_law_380 rfl rfl ?_
  refine kV_iconst 382 dL_law_381 ic_2 rfl ?_
  refine kV_iadd 383 dL_law_382 rfl ?_
  refine kV_sld (j := 2) 384 dL_law_383 hX hbl hbA rfl (by omega) hL rfl ?_
  refine kV_aloadn 385 dL_law_384 rfl rfl ?_
  refine kV_iloadn 386 dL_law_385 rfl rfl ?_
  refine kV_iconst 387 dL_law_386 ic_3 rfl ?_
  refine kV_iadd 388 dL_law_387 rfl ?_
  refine kV_sld (j := 3) 389 dL_law_388 hX hbl hbA rfl (by omega) hL rfl ?_
  refine kV_aloadn 390 dL_law_389 rfl rfl ?_
  refine kV_iloadn 391 dL_law_390 rfl rfl ?_
  refine kV_iconst 392 dL_law_391 ic_4 rfl ?_
  refine kV_iadd 393 dL_law_392 rfl ?_
  refine kV_sld (j := 4) 394 dL_law_393 hX hbl hbA rfl (by omega) hL rfl ?_
  refine kV_callV (Y := (X, RL, 4, some .boolean, G, room_1, cs, Q)) (f' := kgl G n S2) (As := [.int (xs (6 * k + 1)), .int (xs (6 * k + 2)), .int (xs (6 * k + 3)), .int (xs (6 * k + 4))]) (st := [.int r]) 397 dL_law_394 (okX6_word hG 0 h2) kmvX6_word (wi_r11 _ (List.mem_of_getElem? (i := 14) rfl)) (kN_obj (kOk_of hG (o := 5) rfl)) (kgl_obj G n _ 5) rfl rfl (by rw [kr_frames, kr_locals]; omega) hC rfl rfl ?_
  show kV (X, RL, 4, some .boolean, G, room_1, cs, Q) code (kgl G n S2) [some (.ref b), some (.ref (kg_ad G (kbo 0))), some (.ref (kg_ad G (kbo 5))), some (.int (nI (6 * k)))] [.int r, .int r] 397
  refine kV_icmp_eq_t 721 dL_law_397 (by decide) rfl ?_
  exact kk
theorem law_item {X : kX} {G : kG} {cs : Nat × Nat} {Q : State → Prop} {b L k n : Nat} {xs : Nat → Int32} {S S1 S2 : kS} {r : Int32} (hX : va_X b L xs (kx_s X) (kx_s X).heap) (hbl : b < (kx_s X).heap.size) (hbA : ¬ kg_b G ≤ b) (hL : L ≤ 3072) (hk : 6 * k + 6 ≤ L) (hG : kg_N G = 55 + 14 * n) (hC : cs.1 ≤ room_1.cells ∧ cs.2 ≤ room_1.slots) (h1 : FX5_item S (xs (6 * k + 1)) (xs (6 * k + 2)) = some (r, S1)) (h2 : FX6_item S1 (xs (6 * k + 1)) (xs (6 * k + 2)) = some (r, S2)) (kk : kV (X, RL, 4, some .boolean, G, room_1, cs, Q) code (kgl G n S2) [some (.ref b), some (.ref (kg_ad G (kbo 0))), some (.ref (kg_ad G (kbo 5))), some (.int (nI (6 * k)))] [] 721) : kV (X, RL, 4, some .boolean, G, room_1, cs, Q) code (kgl G n S) [some (.ref b), some (.ref (kg_ad G (kbo 0))), some (.ref (kg_ad G (kbo 5))), some (.int (nI (6 * k)))] [] 402 := by
  refine kV_aloadn 403 dL_law_402 rfl rfl ?_
  refine kV_aloadn 404 dL_law_403 rfl rfl ?_
  refine kV_iloadn 405 dL_law_404 rfl rfl ?_
  refine kV_iconst 406 dL_law_405 ic_1 rfl ?_
  refine kV_iadd 407 dL_law_406 rfl ?_
  refine kV_sld (j := 1) 408 dL_law_407 hX hbl hbA rfl (by omega) hL rfl ?_
  refine kV_aloadn 409 dL_law_408 rfl rfl ?_
  refine kV_iloadn 410 dL_law_409 rfl rfl ?_
  refine kV_iconst 411 dL_law_410 ic_2 rfl ?_
  refine kV_iadd 412 dL_law_411 rfl ?_
  refine kV_sld (j := 2) 413 dL_law_412 hX hbl hbA rfl (by omega) hL rfl ?_
  refine kV_callV (Y := (X, RL, 4, some .boolean, G, room_1, cs, Q)) (f' := kgl G n S1) (As := [.int (xs (6 * k + 1)), .int (xs (6 * k + 2))]) (st := []) 416 dL_law_413 (okX5_item hG 0 h1) kmvX5_item (wi_r11 _ (List.mem_of_getElem? (i := 18) rfl)) (kN_obj (kOk_of hG (o := 0) rfl)) (kgl_obj G n _ 0) rfl rfl (by rw [kr_frames, kr_locals]; omega) hC rfl rfl ?_
  show kV (X, RL, 4, some .boolean, G, room_1, cs, Q) code (kgl G n S1) [some (.ref b), some (.ref (kg_ad G (kbo 0))), some (.ref (kg_ad G (kbo 5))), some (.int (nI (6 * k)))] [.int r] 416
  refine kV_aloadn 417 dL_law_416 rfl rfl ?_
  refine kV_aloadn 418 dL_law_417 rfl rfl ?_
  refine kV_iloadn 419 dL_law_418 rfl rfl ?_
  refine kV_iconst 420 dL_law_419 ic_1 rfl ?_
  refine kV_iadd 421 dL_law_420 rfl ?_
  refine kV_sld (j := 1) 422 dL_law_421 hX hbl hbA rfl (by omega) hL rfl ?_
  refine kV_aloadn 423 dL_law_422 rfl rfl ?_
  refine kV_iloadn 424 dL_law_423 rfl rfl ?_
  refine kV_iconst 425 dL_law_424 ic_2 rfl ?_
  refine kV_iadd 426 dL_law_425 rfl ?_
  refine kV_sld (j := 2) 427 dL_law_426 hX hbl hbA rfl (by omega) hL rfl ?_
  refine kV_callV (Y := (X, RL, 4, some .boolean, G, room_1, cs, Q)) (f' := kgl G n S2) (As := [.int (xs (6 * k + 1)), .int (xs (6 * k + 2))]) (st := [.int r]) 430 dL_law_427 (okX6_item hG 0 h2) kmvX6_item (wi_r12 _ (List.mem_of_getElem? (i := 5) rfl)) (kN_obj (kOk_of hG (o := 5) rfl)) (kgl_obj G n _ 5) rfl rfl (by rw [kr_frames, kr_locals]; omega) hC rfl rfl ?_
  show kV (X, RL, 4, some .boolean, G, room_1, cs, Q) code (kgl G n S2) [some (.ref b), some (.ref (kg_ad G (kbo 0))), some (.ref (kg_ad G (kbo 5))), some (.int (nI (6 * k)))] [.int r, .int r] 430
  refine kV_icmp_eq_t 721 dL_law_430 (by decide) rfl ?_
  exact kk
theorem law_row {X : kX} {G : kG} {cs : Nat × Nat} {Q : State → Prop} {b L k n : Nat} {xs : Nat → Int32} {S S1 S2 : kS} {r : Int32} (hX : va_X b L xs (kx_s X) (kx_s X).heap) (hbl : b < (kx_s X).heap.size) (hbA : ¬ kg_b G ≤ b) (hL : L ≤ 3072) (hk : 6 * k + 6 ≤ L) (hG : kg_N G = 55 + 14 * n) (hC : cs.1 ≤ room_1.cells ∧ cs.2 ≤ room_1.slots) (h1 : FX5_row n S (xs (6 * k + 1)) (xs (6 * k + 2)) (xs (6 * k + 3)) = some (r, S1)) (h2 : FX6_row S1 (xs (6 * k + 1)) (xs (6 * k + 2)) (xs (6 * k + 3)) = some (r, S2)) (kk : kV (X, RL, 4, some .boolean, G, room_1, cs, Q) code (kgl G n S2) [some (.ref b), some (.ref (kg_ad G (kbo 0))), some (.ref (kg_ad G (kbo 5))), some (.int (nI (6 * k)))] [] 721) : kV (X, RL, 4, some .boolean, G, room_1, cs, Q) code (kgl G n S) [some (.ref b), some (.ref (kg_ad G (kbo 0))), some (.ref (kg_ad G (kbo 5))), some (.int (nI (6 * k)))] [] 435 := by
  refine kV_aloadn 436 dL_law_435 rfl rfl ?_
  refine kV_aloadn 437 dL_law_436 rfl rfl ?_
  refine kV_iloadn 438 dL_law_437 rfl rfl ?_
  refine kV_iconst 439 dL_law_438 ic_1 rfl ?_
  refine kV_iadd 440 dL_law_439 rfl ?_
  refine kV_sld (j := 1) 441 dL_law_440 hX hbl hbA rfl (by omega) hL rfl ?_
  refine kV_aloadn 442 dL_law_441 rfl rfl ?_
  refine kV_iloadn 443 dL_law_442 rfl rfl ?_
  refine kV_iconst 444 dL_law_443 ic_2 rfl ?_
  refine kV_iadd 445 dL_law_444 rfl ?_
  refine kV_sld (j := 2) 446 dL_law_445 hX hbl hbA rfl (by omega) hL rfl ?_
  refine kV_aloadn 447 dL_law_446 rfl rfl ?_
  refine kV_iloadn 448 dL_law_447 rfl rfl ?_
  refine kV_iconst 449 dL_law_448 ic_3 rfl ?_
  refine kV_iadd 450 dL_law_449 rfl ?_
  refine kV_sld (j := 3) 451 dL_law_450 hX hbl hbA rfl (by omega) hL rfl ?_
  refine kV_callV (Y := (X, RL, 4, some .boolean, G, room_1, cs, Q)) (f' := kgl G n S1) (As := [.int (xs (6 * k + 1)), .int (xs (6 * k + 2)), .int (xs (6 * k + 3))]) (st := []) 454 dL_law_451 (okX5_row hG 0 h1) kmvX5_row (wi_r12 _ (List.mem_of_getElem? (i := 10) rfl)) (kN_obj (kOk_of hG (o := 0) rfl)) (kgl_obj G n _ 0) rfl rfl (by rw [kr_frames, kr_locals]; omega) hC rfl rfl ?_
  show kV (X, RL, 4, some .boolean, G, room_1, cs, Q) code (kgl G n S1) [some (.ref b), some (.ref (kg_ad G (kbo 0))), some (.ref (kg_ad G (kbo 5))), some (.int (nI (6 * k)))] [.int r] 454
  refine kV_aloadn 455 dL_law_454 rfl rfl ?_
  refine kV_aloadn 456 dL_law_455 rfl rfl ?_
  refine kV_iloadn 457 dL_law_456 rfl rfl ?_
  refine kV_iconst 458 dL_law_457 ic_1 rfl ?_
  refine kV_iadd 459 dL_law_458 rfl ?_
  refine kV_sld (j := 1) 460 dL_law_459 hX hbl hbA rfl (by omega) hL rfl ?_
  refine kV_aloadn 461 dL_law_460 rfl rfl ?_
  refine kV_iloadn 462 dL_law_461 rfl rfl ?_
  refine kV_iconst 463 dL_law_462 ic_2 rfl ?_
  refine kV_iadd 464 dL_law_463 rfl ?_
  refine kV_sld (j := 2) 465 dL_law_464 hX hbl hbA rfl (by omega) hL rfl ?_
  refine kV_aloadn 466 dL_law_465 rfl rfl ?_
  refine kV_iloadn 467 dL_law_466 rfl rfl ?_
  refine kV_iconst 468 dL_law_467 ic_3 rfl ?_
  refine kV_iadd 469 dL_law_468 rfl ?_
  refine kV_sld (j := 3) 470 dL_law_469 hX hbl hbA rfl (by omega) hL rfl ?_
  refine kV_callV (Y := (X, RL, 4, some .boolean, G, room_1, cs, Q)) (f' := kgl G n S2) (As := [.int (xs (6 * k + 1)), .int (xs (6 * k + 2)), .int (xs (6 * k + 3))]) (st := [.int r]) 473 dL_law_470 (okX6_row hG 0 h2) kmvX6_row (wi_r13 _ (List.mem_of_getElem? (i := 8) rfl)) (kN_obj (kOk_of hG (o := 5) rfl)) (kgl_obj G n _ 5) rfl rfl (by rw [kr_frames, kr_locals]; omega) hC rfl rfl ?_
  show kV (X, RL, 4, some .boolean, G, room_1, cs, Q) code (kgl G n S2) [some (.ref b), some (.ref (kg_ad G (kbo 0))), some (.ref (kg_ad G (kbo 5))), some (.int (nI (6 * k)))] [.int r, .int r] 473
  refine kV_icmp_eq_t 721 dL_law_473 (by decide) rfl ?_
  exact kk
theorem law_open {X : kX} {G : kG} {cs : Nat × Nat} {Q : State → Prop} {b L k n : Nat} {xs : Nat → Int32} {S S1 S2 : kS} {r : Int32} (hX : va_X b L xs (kx_s X) (kx_s X).heap) (hbl : b < (kx_s X).heap.size) (hbA : ¬ kg_b G ≤ b) (hL : L ≤ 3072) (hk : 6 * k + 6 ≤ L) (hG : kg_N G = 55 + 14 * n) (hC : cs.1 ≤ room_1.cells ∧ cs.2 ≤ room_1.slots) (h1 : FX5_open n S (xs (6 * k + 1)) = some (r, S1)) (h2 : FX6_open S1 (xs (6 * k + 1)) = some (r, S2)) (kk : kV (X, RL, 4, some .boolean, G, room_1, cs, Q) code (kgl G n S2) [some (.ref b), some (.ref (kg_ad G (kbo 0))), some (.ref (kg_ad G (kbo 5))), some (.int (nI (6 * k)))] [] 721) : kV (X, RL, 4, some .boolean, G, room_1, cs, Q) code (kgl G n S) [some (.ref b), some (.ref (kg_ad G (kbo 0))), some (.ref (kg_ad G (kbo 5))), some (.int (nI (6 * k)))] [] 478 := by
  refine kV_aloadn 479 dL_law_478 rfl rfl ?_
  refine kV_aloadn 480 dL_law_479 rfl rfl ?_
  refine kV_iloadn 481 dL_law_480 rfl rfl ?_
  refine kV_iconst 482 dL_law_481 ic_1 rfl ?_
  refine kV_iadd 483 dL_law_482 rfl ?_
  refine kV_sld (j := 1) 484 dL_law_483 hX hbl hbA rfl (by omega) hL rfl ?_
  refine kV_callV (Y := (X, RL, 4, some .boolean, G, room_1, cs, Q)) (f' := kgl G n S1) (As := [.int (xs (6 * k + 1))]) (st := []) 487 dL_law_484 (okX5_open hG 0 h1) kmvX5_open (wi_r13 _ (List.mem_of_getElem? (i := 13) rfl)) (kN_obj (kOk_of hG (o := 0) rfl)) (kgl_obj G n _ 0) rfl rfl (by rw [kr_frames, kr_locals]; omega) hC rfl rfl ?_
  show kV (X, RL, 4, some .boolean, G, room_1, cs, Q) code (kgl G n S1) [some (.ref b), some (.ref (kg_ad G (kbo 0))), some (.ref (kg_ad G (kbo 5))), some (.int (nI (6 * k)))] [.int r] 487
  refine kV_aloadn 488 dL_law_487 rfl rfl ?_
  refine kV_aloadn 489 dL_law_488 rfl rfl ?_
  refine kV_iloadn 490 dL_law_489 rfl rfl ?_
  refine kV_iconst 491 dL_law_490 ic_1 rfl ?_
  refine kV_iadd 492 dL_law_491 rfl ?_
  refine kV_sld (j := 1) 493 dL_law_492 hX hbl hbA rfl (by omega) hL rfl ?_
  refine kV_callV (Y := (X, RL, 4, some .boolean, G, room_1, cs, Q)) (f' := kgl G n S2) (As := [.int (xs (6 * k + 1))]) (st := [.int r]) 496 dL_law_493 (okX6_open hG 0 h2) kmvX6_open (wi_r14 _ (List.mem_of_getElem? (i := 9) rfl)) (kN_obj (kOk_of hG (o := 5) rfl)) (kgl_obj G n _ 5) rfl rfl (by rw [kr_frames, kr_locals]; omega) hC rfl rfl ?_
  show kV (X, RL, 4, some .boolean, G, room_1, cs, Q) code (kgl G n S2) [some (.ref b), some (.ref (kg_ad G (kbo 0))), some (.ref (kg_ad G (kbo 5))), some (.int (nI (6 * k)))] [.int r, .int r] 496
  refine kV_icmp_eq_t 721 dL_law_496 (by decide) rfl ?_
  exact kk
theorem law_close {X : kX} {G : kG} {cs : Nat × Nat} {Q : State → Prop} {b L k n : Nat} {xs : Nat → Int32} {S S1 S2 : kS} {r : Int32} (hX : va_X b L xs (kx_s X) (kx_s X).heap) (hbl : b < (kx_s X).heap.size) (hbA : ¬ kg_b G ≤ b) (hL : L ≤ 3072) (hk : 6 * k + 6 ≤ L) (hG : kg_N G = 55 + 14 * n) (hC : cs.1 ≤ room_1.cells ∧ cs.2 ≤ room_1.slots) (h1 : FX5_close S = some (r, S1)) (h2 : FX6_close S1 = some (r, S2)) (kk : kV (X, RL, 4, some .boolean, G, room_1, cs, Q) code (kgl G n S2) [some (.ref b), some (.ref (kg_ad G (kbo 0))), some (.ref (kg_ad G (kbo 5))), some (.int (nI (6 * k)))] [] 721) : kV (X, RL, 4, some .boolean, G, room_1, cs, Q) code (kgl G n S) [some (.ref b), some (.ref (kg_ad G (kbo 0))), some (.ref (kg_ad G (kbo 5))), some (.int (nI (6 * k)))] [] 501 := by
  refine kV_aloadn 502 dL_law_501 rfl rfl ?_
  refine kV_callV (Y := (X, RL, 4, some .boolean, G, room_1, cs, Q)) (f' := kgl G n S1) (As := []) (st := []) 505 dL_law_502 (okX5_close hG 0 h1) kmvX5_close (wi_r14 _ (List.mem_of_getElem? (i := 14) rfl)) (kN_obj (kOk_of hG (o := 0) rfl)) (kgl_obj G n _ 0) rfl rfl (by rw [kr_frames, kr_locals]; omega) hC rfl rfl ?_
  show kV (X, RL, 4, some .boolean, G, room_1, cs, Q) code (kgl G n S1) [some (.ref b), some (.ref (kg_ad G (kbo 0))), some (.ref (kg_ad G (kbo 5))), some (.int (nI (6 * k)))] [.int r] 505
  refine kV_aloadn 506 dL_law_505 rfl rfl ?_
  refine kV_callV (Y := (X, RL, 4, some .boolean, G, room_1, cs, Q)) (f' := kgl G n S2) (As := []) (st := [.int r]) 509 dL_law_506 (okX6_close hG 0 h2) kmvX6_close (wi_r14 _ (List.mem_of_getElem? (i := 18) rfl)) (kN_obj (kOk_of hG (o := 5) rfl)) (kgl_obj G n _ 5) rfl rfl (by rw [kr_frames, kr_locals]; omega) hC rfl rfl ?_
  show kV (X, RL, 4, some .boolean, G, room_1, cs, Q) code (kgl G n S2) [some (.ref b), some (.ref (kg_ad G (kbo 0))), some (.ref (kg_ad G (kbo 5))), some (.int (nI (6 * k)))] [.int r, .int r] 509
  refine kV_icmp_eq_t 721 dL_law_509 (by decide) rfl ?_
  exact kk
theorem law_say {X : kX} {G : kG} {cs : Nat × Nat} {Q : State → Prop} {b L k n : Nat} {xs : Nat → Int32} {S S1 S2 : kS} {r : Int32} (hX : va_X b L xs (kx_s X) (kx_s X).heap) (hbl : b < (kx_s X).heap.size) (hbA : ¬ kg_b G ≤ b) (hL : L ≤ 3072) (hk : 6 * k + 6 ≤ L) (hG : kg_N G = 55 + 14 * n) (hC : cs.1 ≤ room_1.cells ∧ cs.2 ≤ room_1.slots) (h1 : FX5_say S (xs (6 * k + 1)) = some (r, S1)) (h2 : FX6_say S1 (xs (6 * k + 1)) = some (r, S2)) (kk : kV (X, RL, 4, some .boolean, G, room_1, cs, Q) code (kgl G n S2) [some (.ref b), some (.ref (kg_ad G (kbo 0))), some (.ref (kg_ad G (kbo 5))), some (.int (nI (6 * k)))] [] 721) : kV (X, RL, 4, some .boolean, G, room_1, cs, Q) code (kgl G n S) [some (.ref b), some (.ref (kg_ad G (kbo 0))), some (.ref (kg_ad G (kbo 5))), some (.int (nI (6 * k)))] [] 514 := by
  refine kV_aloadn 515 dL_law_514 rfl rfl ?_
  refine kV_aloadn 516 dL_law_515 rfl rfl ?_
  refine kV_iloadn 517 dL_law_516 rfl rfl ?_
  refine kV_iconst 518 dL_law_517 ic_1 rfl ?_
  refine kV_iadd 519 dL_law_518 rfl ?_
  refine kV_sld (j := 1) 520 dL_law_519 hX hbl hbA rfl (by omega) hL rfl ?_
  refine kV_callV (Y := (X, RL, 4, some .boolean, G, room_1, cs, Q)) (f' := kgl G n S1) (As := [.int (xs (6 * k + 1))]) (st := []) 523 dL_law_520 (okX5_say hG 0 h1) kmvX5_say (wi_r14 _ (List.mem_of_getElem? (i := 22) rfl)) (kN_obj (kOk_of hG (o := 0) rfl)) (kgl_obj G n _ 0) rfl rfl (by rw [kr_frames, kr_locals]; omega) hC rfl rfl ?_
  show kV (X, RL, 4, some .boolean, G, room_1, cs, Q) code (kgl G n S1) [some (.ref b), some (.ref (kg_ad G (kbo 0))), some (.ref (kg_ad G (kbo 5))), some (.int (nI (6 * k)))] [.int r] 523
  refine kV_aloadn 524 dL_law_523 rfl rfl ?_
  refine kV_aloadn 525 dL_law_524 rfl rfl ?_
  refine kV_iloadn 526 dL_law_525 rfl rfl ?_
  refine kV_iconst 527 dL_law_526 ic_1 rfl ?_
  refine kV_iadd 528 dL_law_527 rfl ?_
  refine kV_sld (j := 1) 529 dL_law_528 hX hbl hbA rfl (by omega) hL rfl ?_
  refine kV_callV (Y := (X, RL, 4, some .boolean, G, room_1, cs, Q)) (f' := kgl G n S2) (As := [.int (xs (6 * k + 1))]) (st := [.int r]) 532 dL_law_529 (okX6_say hG 0 h2) kmvX6_say (wi_r15 _ (List.mem_of_getElem? (i := 2) rfl)) (kN_obj (kOk_of hG (o := 5) rfl)) (kgl_obj G n _ 5) rfl rfl (by rw [kr_frames, kr_locals]; omega) hC rfl rfl ?_
  show kV (X, RL, 4, some .boolean, G, room_1, cs, Q) code (kgl G n S2) [some (.ref b), some (.ref (kg_ad G (kbo 0))), some (.ref (kg_ad G (kbo 5))), some (.int (nI (6 * k)))] [.int r, .int r] 532
  refine kV_icmp_eq_t 721 dL_law_532 (by decide) rfl ?_
  exact kk
theorem law_hear {X : kX} {G : kG} {cs : Nat × Nat} {Q : State → Prop} {b L k n : Nat} {xs : Nat → Int32} {S S1 S2 : kS} {r : Int32} (hX : va_X b L xs (kx_s X) (kx_s X).heap) (hbl : b < (kx_s X).heap.size) (hbA : ¬ kg_b G ≤ b) (hL : L ≤ 3072) (hk : 6 * k + 6 ≤ L) (hG : kg_N G = 55 + 14 * n) (hC : cs.1 ≤ room_1.cells ∧ cs.2 ≤ room_1.slots) (h1 : FX5_hear n S = some (r, S1)) (h2 : FX6_hear S1 = some (r, S2)) (kk : kV (X, RL, 4, some .boolean, G, room_1, cs, Q) code (kgl G n S2) [some (.ref b), some (.ref (kg_ad G (kbo 0))), some (.ref (kg_ad G (kbo 5))), some (.int (nI (6 * k)))] [] 721) : kV (X, RL, 4, some .boolean, G, room_1, cs, Q) code (kgl G n S) [some (.ref b), some (.ref (kg_ad G (kbo 0))), some (.ref (kg_ad G (kbo 5))), some (.int (nI (6 * k)))] [] 537 := by
  refine kV_aloadn 538 dL_law_537 rfl rfl ?_
  refine kV_callV (Y := (X, RL, 4, some .boolean, G, room_1, cs, Q)) (f' := kgl G n S1) (As := []) (st := []) 541 dL_law_538 (okX5_hear hG 0 h1) kmvX5_hear (wi_r15 _ (List.mem_of_getElem? (i := 7) rfl)) (kN_obj (kOk_of hG (o := 0) rfl)) (kgl_obj G n _ 0) rfl rfl (by rw [kr_frames, kr_locals]; omega) hC rfl rfl ?_
  show kV (X, RL, 4, some .boolean, G, room_1, cs, Q) code (kgl G n S1) [some (.ref b), some (.ref (kg_ad G (kbo 0))), some (.ref (kg_ad G (kbo 5))), some (.int (nI (6 * k)))] [.int r] 541
  refine kV_aloadn 542 dL_law_541 rfl rfl ?_
  refine kV_callV (Y := (X, RL, 4, some .boolean, G, room_1, cs, Q)) (f' := kgl G n S2) (As := []) (st := [.int r]) 545 dL_law_542 (okX6_hear hG 0 h2) kmvX6_hear (wi_r22 _ (List.mem_of_getElem? (i := 14) rfl)) (kN_obj (kOk_of hG (o := 5) rfl)) (kgl_obj G n _ 5) rfl rfl (by rw [kr_frames, kr_locals]; omega) hC rfl rfl ?_
  show kV (X, RL, 4, some .boolean, G, room_1, cs, Q) code (kgl G n S2) [some (.ref b), some (.ref (kg_ad G (kbo 0))), some (.ref (kg_ad G (kbo 5))), some (.int (nI (6 * k)))] [.int r, .int r] 545
  refine kV_icmp_eq_t 721 dL_law_545 (by decide) rfl ?_
  exact kk
theorem law_back {X : kX} {G : kG} {cs : Nat × Nat} {Q : State → Prop} {b L k n : Nat} {xs : Nat → Int32} {S S1 S2 : kS} {r : Int32} (hX : va_X b L xs (kx_s X) (kx_s X).heap) (hbl : b < (kx_s X).heap.size) (hbA : ¬ kg_b G ≤ b) (hL : L ≤ 3072) (hk : 6 * k + 6 ≤ L) (hG : kg_N G = 55 + 14 * n) (hC : cs.1 ≤ room_1.cells ∧ cs.2 ≤ room_1.slots) (h1 : FX5_back n S = some (r, S1)) (h2 : FX6_back S1 = some (r, S2)) (kk : kV (X, RL, 4, some .boolean, G, room_1, cs, Q) code (kgl G n S2) [some (.ref b), some (.ref (kg_ad G (kbo 0))), some (.ref (kg_ad G (kbo 5))), some (.int (nI (6 * k)))] [] 721) : kV (X, RL, 4, some .boolean, G, room_1, cs, Q) code (kgl G n S) [some (.ref b), some (.ref (kg_ad G (kbo 0))), some (.ref (kg_ad G (kbo 5))), some (.int (nI (6 * k)))] [] 550 := by
  refine kV_aloadn 551 dL_law_550 rfl rfl ?_
  refine kV_callV (Y := (X, RL, 4, some .boolean, G, room_1, cs, Q)) (f' := kgl G n S1) (As := []) (st := []) 554 dL_law_551 (okX5_back hG 0 h1) kmvX5_back (wi_r25 _ (List.mem_of_getElem? (i := 11) rfl)) (kN_obj (kOk_of hG (o := 0) rfl)) (kgl_obj G n _ 0) rfl rfl (by rw [kr_frames, kr_locals]; omega) hC rfl rfl ?_
  show kV (X, RL, 4, some .boolean, G, room_1, cs, Q) code (kgl G n S1) [some (.ref b), some (.ref (kg_ad G (kbo 0))), some (.ref (kg_ad G (kbo 5))), some (.int (nI (6 * k)))] [.int r] 554
  refine kV_aloadn 555 dL_law_554 rfl rfl ?_
  refine kV_callV (Y := (X, RL, 4, some .boolean, G, room_1, cs, Q)) (f' := kgl G n S2) (As := []) (st := [.int r]) 558 dL_law_555 (okX6_back hG 0 h2) kmvX6_back (wi_r26 _ (List.mem_of_getElem? (i := 4) rfl)) (kN_obj (kOk_of hG (o := 5) rfl)) (kgl_obj G n _ 5) rfl rfl (by rw [kr_frames, kr_locals]; omega) hC rfl rfl ?_
  show kV (X, RL, 4, some .boolean, G, room_1, cs, Q) code (kgl G n S2) [some (.ref b), some (.ref (kg_ad G (kbo 0))), some (.ref (kg_ad G (kbo 5))), some (.int (nI (6 * k)))] [.int r, .int r] 558
  refine kV_icmp_eq_t 721 dL_law_558 (by decide) rfl ?_
  exact kk
theorem law_act {X : kX} {G : kG} {cs : Nat × Nat} {Q : State → Prop} {b L k n : Nat} {xs : Nat → Int32} {S S1 S2 : kS} {r : Int32} (hX : va_X b L xs (kx_s X) (kx_s X).heap) (hbl : b < (kx_s X).heap.size) (hbA : ¬ kg_b G ≤ b) (hL : L ≤ 3072) (hk : 6 * k + 6 ≤ L) (hG : kg_N G = 55 + 14 * n) (hC : cs.1 ≤ room_1.cells ∧ cs.2 ≤ room_1.slots) (h1 : FX5_act n S = some (r, S1)) (h2 : FX6_act S1 = some (r, S2)) (kk : kV (X, RL, 4, some .boolean, G, room_1, cs, Q) code (kgl G n S2) [some (.ref b), some (.ref (kg_ad G (kbo 0))), some (.ref (kg_ad G (kbo 5))), some (.int (nI (6 * k)))] [] 721) : kV (X, RL, 4, some .boolean, G, room_1, cs, Q) code (kgl G n S) [some (.ref b), some (.ref (kg_ad G (kbo 0))), some (.ref (kg_ad G (kbo 5))), some (.int (nI (6 * k)))] [] 563 := by
  refine kV_aloadn 564 dL_law_563 rfl rfl ?_
  refine kV_callV (Y := (X, RL, 4, some .boolean, G, room_1, cs, Q)) (f' := kgl G n S1) (As := []) (st := []) 567 dL_law_564 (okX5_act hG 0 h1) kmvX5_act (wi_r26 _ (List.mem_of_getElem? (i := 8) rfl)) (kN_obj (kOk_of hG (o := 0) rfl)) (kgl_obj G n _ 0) rfl rfl (by rw [kr_frames, kr_locals]; omega) hC rfl rfl ?_
  show kV (X, RL, 4, some .boolean, G, room_1, cs, Q) code (kgl G n S1) [some (.ref b), some (.ref (kg_ad G (kbo 0))), some (.ref (kg_ad G (kbo 5))), some (.int (nI (6 * k)))] [.int r] 567
  refine kV_aloadn 568 dL_law_567 rfl rfl ?_
  refine kV_callV (Y := (X, RL, 4, some .boolean, G, room_1, cs, Q)) (f' := kgl G n S2) (As := []) (st := [.int r]) 571 dL_law_568 (okX6_act hG 0 h2) kmvX6_act (wi_r28 _ (List.mem_of_getElem? (i := 17) rfl)) (kN_obj (kOk_of hG (o := 5) rfl)) (kgl_obj G n _ 5) rfl rfl (by rw [kr_frames, kr_locals]; omega) hC rfl rfl ?_
  show kV (X, RL, 4, some .boolean, G, room_1, cs, Q) code (kgl G n S2) [some (.ref b), some (.ref (kg_ad G (kbo 0))), some (.ref (kg_ad G (kbo 5))), some (.int (nI (6 * k)))] [.int r, .int r] 571
  refine kV_icmp_eq_t 721 dL_law_571 (by decide) rfl ?_
  exact kk
theorem law_worst {X : kX} {G : kG} {cs : Nat × Nat} {Q : State → Prop} {b L k n : Nat} {xs : Nat → Int32} {S S1 S2 : kS} {r : Int32} (hX : va_X b L xs (kx_s X) (kx_s X).heap) (hbl : b < (kx_s X).heap.size) (hbA : ¬ kg_b G ≤ b) (hL : L ≤ 3072) (hk : 6 * k + 6 ≤ L) (hG : kg_N G = 55 + 14 * n) (hC : cs.1 ≤ room_1.cells ∧ cs.2 ≤ room_1.slots) (h1 : FX5_worst n S = some (r, S1)) (h2 : FX6_worst S1 = some (r, S2)) (kk : kV (X, RL, 4, some .boolean, G, room_1, cs, Q) code (kgl G n S2) [some (.ref b), some (.ref (kg_ad G (kbo 0))), some (.ref (kg_ad G (kbo 5))), some (.int (nI (6 * k)))] [] 721) : kV (X, RL, 4, some .boolean, G, room_1, cs, Q) code (kgl G n S) [some (.ref b), some (.ref (kg_ad G (kbo 0))), some (.ref (kg_ad G (kbo 5))), some (.int (nI (6 * k)))] [] 576 := by
  refine kV_aloadn 577 dL_law_576 rfl rfl ?_
  refine kV_callV (Y := (X, RL, 4, some .boolean, G, room_1, cs, Q)) (f' := kgl G n S1) (As := []) (st := []) 580 dL_law_577 (okX5_worst hG 0 h1) kmvX5_worst (wi_r29 _ (List.mem_of_getElem? (i := 17) rfl)) (kN_obj (kOk_of hG (o := 0) rfl)) (kgl_obj G n _ 0) rfl rfl (by rw [kr_frames, kr_locals]; omega) hC rfl rfl ?_
  show kV (X, RL, 4, some .boolean, G, room_1, cs, Q) code (kgl G n S1) [some (.ref b), some (.ref (kg_ad G (kbo 0))), some (.ref (kg_ad G (kbo 5))), some (.int (nI (6 * k)))] [.int r] 580
  refine kV_aloadn 581 dL_law_580 rfl rfl ?_
  refine kV_callV (Y := (X, RL, 4, some .boolean, G, room_1, cs, Q)) (f' := kgl G n S2) (As := []) (st := [.int r]) 584 dL_law_581 (okX6_worst hG 0 h2) kmvX6_worst (wi_r30 _ (List.mem_of_getElem? (i := 1) rfl)) (kN_obj (kOk_of hG (o := 5) rfl)) (kgl_obj G n _ 5) rfl rfl (by rw [kr_frames, kr_locals]; omega) hC rfl rfl ?_
  show kV (X, RL, 4, some .boolean, G, room_1, cs, Q) code (kgl G n S2) [some (.ref b), some (.ref (kg_ad G (kbo 0))), some (.ref (kg_ad G (kbo 5))), some (.int (nI (6 * k)))] [.int r, .int r] 584
  refine kV_icmp_eq_t 721 dL_law_584 (by decide) rfl ?_
  exact kk
theorem law_about {X : kX} {G : kG} {cs : Nat × Nat} {Q : State → Prop} {b L k n : Nat} {xs : Nat → Int32} {S  : kS} {r : Int32} (hX : va_X b L xs (kx_s X) (kx_s X).heap) (hbl : b < (kx_s X).heap.size) (hbA : ¬ kg_b G ≤ b) (hL : L ≤ 3072) (hk : 6 * k + 6 ≤ L) (hG : kg_N G = 55 + 14 * n) (hC : cs.1 ≤ room_1.cells ∧ cs.2 ≤ room_1.slots) (h1 : FX5_about n S (xs (6 * k + 1)) (xs (6 * k + 2)) (xs (6 * k + 3)) = some r) (h2 : FX6_about S (xs (6 * k + 1)) (xs (6 * k + 2)) (xs (6 * k + 3)) = some r) (kk : kV (X, RL, 4, some .boolean, G, room_1, cs, Q) code (kgl G n S) [some (.ref b), some (.ref (kg_ad G (kbo 0))), some (.ref (kg_ad G (kbo 5))), some (.int (nI (6 * k)))] [] 721) : kV (X, RL, 4, some .boolean, G, room_1, cs, Q) code (kgl G n S) [some (.ref b), some (.ref (kg_ad G (kbo 0))), some (.ref (kg_ad G (kbo 5))), some (.int (nI (6 * k)))] [] 589 := by
  refine kV_aloadn 590 dL_law_589 rfl rfl ?_
  refine kV_aloadn 591 dL_law_590 rfl rfl ?_
  refine kV_iloadn 592 dL_law_591 rfl rfl ?_
  refine kV_iconst 593 dL_law_592 ic_1 rfl ?_
  refine kV_iadd 594 dL_law_593 rfl ?_
  refine kV_sld (j := 1) 595 dL_law_594 hX hbl hbA rfl (by omega) hL rfl ?_
  refine kV_aloadn 596 dL_law_595 rfl rfl ?_
  refine kV_iloadn 597 dL_law_596 rfl rfl ?_
  refine kV_iconst 598 dL_law_597 ic_2 rfl ?_
  refine kV_iadd 599 dL_law_598 rfl ?_
  refine kV_sld (j := 2) 600 dL_law_599 hX hbl hbA rfl (by omega) hL rfl ?_
  refine kV_aloadn 601 dL_law_600 rfl rfl ?_
  refine kV_iloadn 602 dL_law_601 rfl rfl ?_
  refine kV_iconst 603 dL_law_602 ic_3 rfl ?_
  refine kV_iadd 604 dL_law_603 rfl ?_
  refine kV_sld (j := 3) 605 dL_law_604 hX hbl hbA rfl (by omega) hL rfl ?_
  refine kV_callV (Y := (X, RL, 4, some .boolean, G, room_1, cs, Q)) (f' := kgl G n S) (As := [.int (xs (6 * k + 1)), .int (xs (6 * k + 2)), .int (xs (6 * k + 3))]) (st := []) 608 dL_law_605 (okX5_about hG 0 h1) kmvX5_about (wi_r30 _ (List.mem_of_getElem? (i := 5) rfl)) (kN_obj (kOk_of hG (o := 0) rfl)) (kgl_obj G n _ 0) rfl rfl (by rw [kr_frames, kr_locals]; omega) hC rfl rfl ?_
  show kV (X, RL, 4, some .boolean, G, room_1, cs, Q) code (kgl G n S) [some (.ref b), some (.ref (kg_ad G (kbo 0))), some (.ref (kg_ad G (kbo 5))), some (.int (nI (6 * k)))] [.int r] 608
  refine kV_aloadn 609 dL_law_608 rfl rfl ?_
  refine kV_aloadn 610 dL_law_609 rfl rfl ?_
  refine kV_iloadn 611 dL_law_610 rfl rfl ?_
  refine kV_iconst 612 dL_law_611 ic_1 rfl ?_
  refine kV_iadd 613 dL_law_612 rfl ?_
  refine kV_sld (j := 1) 614 dL_law_613 hX hbl hbA rfl (by omega) hL rfl ?_
  refine kV_aloadn 615 dL_law_614 rfl rfl ?_
  refine kV_iloadn 616 dL_law_615 rfl rfl ?_
  refine kV_iconst 617 dL_law_616 ic_2 rfl ?_
  refine kV_iadd 618 dL_law_617 rfl ?_
  refine kV_sld (j := 2) 619 dL_law_618 hX hbl hbA rfl (by omega) hL rfl ?_
  refine kV_aloadn 620 dL_law_619 rfl rfl ?_
  refine kV_iloadn 621 dL_law_620 rfl rfl ?_
  refine kV_iconst 622 dL_law_621 ic_3 rfl ?_
  refine kV_iadd 623 dL_law_622 rfl ?_
  refine kV_sld (j := 3) 624 dL_law_623 hX hbl hbA rfl (by omega) hL rfl ?_
  refine kV_callV (Y := (X, RL, 4, some .boolean, G, room_1, cs, Q)) (f' := kgl G n S) (As := [.int (xs (6 * k + 1)), .int (xs (6 * k + 2)), .int (xs (6 * k + 3))]) (st := [.int r]) 627 dL_law_624 (okX6_about hG 0 h2) kmvX6_about (wi_r30 _ (List.mem_of_getElem? (i := 19) rfl)) (kN_obj (kOk_of hG (o := 5) rfl)) (kgl_obj G n _ 5) rfl rfl (by rw [kr_frames, kr_locals]; omega) hC rfl rfl ?_
  show kV (X, RL, 4, some .boolean, G, room_1, cs, Q) code (kgl G n S) [some (.ref b), some (.ref (kg_ad G (kbo 0))), some (.ref (kg_ad G (kbo 5))), some (.int (nI (6 * k)))] [.int r, .int r] 627
  refine kV_icmp_eq_t 721 dL_law_627 (by decide) rfl ?_
  exact kk
theorem law_said {X : kX} {G : kG} {cs : Nat × Nat} {Q : State → Prop} {b L k n : Nat} {xs : Nat → Int32} {S  : kS} {r : Int32} (hX : va_X b L xs (kx_s X) (kx_s X).heap) (hbl : b < (kx_s X).heap.size) (hbA : ¬ kg_b G ≤ b) (hL : L ≤ 3072) (hk : 6 * k + 6 ≤ L) (hG : kg_N G = 55 + 14 * n) (hC : cs.1 ≤ room_1.cells ∧ cs.2 ≤ room_1.slots) (h1 : FX5_said n S (xs (6 * k + 1)) (xs (6 * k + 2)) (xs (6 * k + 3)) = some r) (h2 : FX6_said S (xs (6 * k + 1)) (xs (6 * k + 2)) (xs (6 * k + 3)) = some r) (kk : kV (X, RL, 4, some .boolean, G, room_1, cs, Q) code (kgl G n S) [some (.ref b), some (.ref (kg_ad G (kbo 0))), some (.ref (kg_ad G (kbo 5))), some (.int (nI (6 * k)))] [] 721) : kV (X, RL, 4, some .boolean, G, room_1, cs, Q) code (kgl G n S) [some (.ref b), some (.ref (kg_ad G (kbo 0))), some (.ref (kg_ad G (kbo 5))), some (.int (nI (6 * k)))] [] 632 := by
  refine kV_aloadn 633 dL_law_632 rfl rfl ?_
  refine kV_aloadn 634 dL_law_633 rfl rfl ?_
  refine kV_iloadn 635 dL_law_634 rfl rfl ?_
  refine kV_iconst 636 dL_law_635 ic_1 rfl ?_
  refine kV_iadd 637 dL_law_636 rfl ?_
  refine kV_sld (j := 1) 638 dL_law_637 hX hbl hbA rfl (by omega) hL rfl ?_
  refine kV_aloadn 639 dL_law_638 rfl rfl ?_
  refine kV_iloadn 640 dL_law_639 rfl rfl ?_
  refine kV_iconst 641 dL_law_640 ic_2 rfl ?_
  refine kV_iadd 642 dL_law_641 rfl ?_
  refine kV_sld (j := 2) 643 dL_law_642 hX hbl hbA rfl (by omega) hL rfl ?_
  refine kV_aloadn 644 dL_law_643 rfl rfl ?_
  refine kV_iloadn 645 dL_law_644 rfl rfl ?_
  refine kV_iconst 646 dL_law_645 ic_3 rfl ?_
  refine kV_iadd 647 dL_law_646 rfl ?_
  refine kV_sld (j := 3) 648 dL_law_647 hX hbl hbA rfl (by omega) hL rfl ?_
  refine kV_callV (Y := (X, RL, 4, some .boolean, G, room_1, cs, Q)) (f' := kgl G n S) (As := [.int (xs (6 * k + 1)), .int (xs (6 * k + 2)), .int (xs (6 * k + 3))]) (st := []) 651 dL_law_648 (okX5_said hG 0 h1) kmvX5_said (wi_r30 _ (List.mem_of_getElem? (i := 23) rfl)) (kN_obj (kOk_of hG (o := 0) rfl)) (kgl_obj G n _ 0) rfl rfl (by rw [kr_frames, kr_locals]; omega) hC rfl rfl ?_
  show kV (X, RL, 4, some .boolean, G, room_1, cs, Q) code (kgl G n S) [some (.ref b), some (.ref (kg_ad G (kbo 0))), some (.ref (kg_ad G (kbo 5))), some (.int (nI (6 * k)))] [.int r] 651
  refine kV_aloadn 652 dL_law_651 rfl rfl ?_
  refine kV_aloadn 653 dL_law_652 rfl rfl ?_
  refine kV_iloadn 654 dL_law_653 rfl rfl ?_
  refine kV_iconst 655 dL_law_654 ic_1 rfl ?_
  refine kV_iadd 656 dL_law_655 rfl ?_
  refine kV_sld (j := 1) 657 dL_law_656 hX hbl hbA rfl (by omega) hL rfl ?_
  refine kV_aloadn 658 dL_law_657 rfl rfl ?_
  refine kV_iloadn 659 dL_law_658 rfl rfl ?_
  refine kV_iconst 660 dL_law_659 ic_2 rfl ?_
  refine kV_iadd 661 dL_law_660 rfl ?_
  refine kV_sld (j := 2) 662 dL_law_661 hX hbl hbA rfl (by omega) hL rfl ?_
  refine kV_aloadn 663 dL_law_662 rfl rfl ?_
  refine kV_iloadn 664 dL_law_663 rfl rfl ?_
  refine kV_iconst 665 dL_law_664 ic_3 rfl ?_
  refine kV_iadd 666 dL_law_665 rfl ?_
  refine kV_sld (j := 3) 667 dL_law_666 hX hbl hbA rfl (by omega) hL rfl ?_
  refine kV_callV (Y := (X, RL, 4, some .boolean, G, room_1, cs, Q)) (f' := kgl G n S) (As := [.int (xs (6 * k + 1)), .int (xs (6 * k + 2)), .int (xs (6 * k + 3))]) (st := [.int r]) 670 dL_law_667 (okX6_said hG 0 h2) kmvX6_said (wi_r31 _ (List.mem_of_getElem? (i := 7) rfl)) (kN_obj (kOk_of hG (o := 5) rfl)) (kgl_obj G n _ 5) rfl rfl (by rw [kr_frames, kr_locals]; omega) hC rfl rfl ?_
  show kV (X, RL, 4, some .boolean, G, room_1, cs, Q) code (kgl G n S) [some (.ref b), some (.ref (kg_ad G (kbo 0))), some (.ref (kg_ad G (kbo 5))), some (.int (nI (6 * k)))] [.int r, .int r] 670
  refine kV_icmp_eq_t 721 dL_law_670 (by decide) rfl ?_
  exact kk
theorem law_heard {X : kX} {G : kG} {cs : Nat × Nat} {Q : State → Prop} {b L k n : Nat} {xs : Nat → Int32} {S  : kS} {r : Int32} (hX : va_X b L xs (kx_s X) (kx_s X).heap) (hbl : b < (kx_s X).heap.size) (hbA : ¬ kg_b G ≤ b) (hL : L ≤ 3072) (hk : 6 * k + 6 ≤ L) (hG : kg_N G = 55 + 14 * n) (hC : cs.1 ≤ room_1.cells ∧ cs.2 ≤ room_1.slots) (h1 : FX5_heard S (xs (6 * k + 1)) = some r) (h2 : FX6_heard S (xs (6 * k + 1)) = some r) (kk : kV (X, RL, 4, some .boolean, G, room_1, cs, Q) code (kgl G n S) [some (.ref b), some (.ref (kg_ad G (kbo 0))), some (.ref (kg_ad G (kbo 5))), some (.int (nI (6 * k)))] [] 721) : kV (X, RL, 4, some .boolean, G, room_1, cs, Q) code (kgl G n S) [some (.ref b), some (.ref (kg_ad G (kbo 0))), some (.ref (kg_ad G (kbo 5))), some (.int (nI (6 * k)))] [] 675 := by
  refine kV_aloadn 676 dL_law_675 rfl rfl ?_
  refine kV_aloadn 677 dL_law_676 rfl rfl ?_
  refine kV_iloadn 678 dL_law_677 rfl rfl ?_
  refine kV_iconst 679 dL_law_678 ic_1 rfl ?_
  refine kV_iadd 680 dL_law_679 rfl ?_
  refine kV_sld (j := 1) 681 dL_law_680 hX hbl hbA rfl (by omega) hL rfl ?_
  refine kV_callV (Y := (X, RL, 4, some .boolean, G, room_1, cs, Q)) (f' := kgl G n S) (As := [.int (xs (6 * k + 1))]) (st := []) 684 dL_law_681 (okX5_heard hG 0 h1) kmvX5_heard (wi_r31 _ (List.mem_of_getElem? (i := 11) rfl)) (kN_obj (kOk_of hG (o := 0) rfl)) (kgl_obj G n _ 0) rfl rfl (by rw [kr_frames, kr_locals]; omega) hC rfl rfl ?_
  show kV (X, RL, 4, some .boolean, G, room_1, cs, Q) code (kgl G n S) [some (.ref b), some (.ref (kg_ad G (kbo 0))), some (.ref (kg_ad G (kbo 5))), some (.int (nI (6 * k)))] [.int r] 684
  refine kV_aloadn 685 dL_law_684 rfl rfl ?_
  refine kV_aloadn 686 dL_law_685 rfl rfl ?_
  refine kV_iloadn 687 dL_law_686 rfl rfl ?_
  refine kV_iconst 688 dL_law_687 ic_1 rfl ?_
  refine kV_iadd 689 dL_law_688 rfl ?_
  refine kV_sld (j := 1) 690 dL_law_689 hX hbl hbA rfl (by omega) hL rfl ?_
  refine kV_callV (Y := (X, RL, 4, some .boolean, G, room_1, cs, Q)) (f' := kgl G n S) (As := [.int (xs (6 * k + 1))]) (st := [.int r]) 693 dL_law_690 (okX6_heard hG 0 h2) kmvX6_heard (wi_r31 _ (List.mem_of_getElem? (i := 23) rfl)) (kN_obj (kOk_of hG (o := 5) rfl)) (kgl_obj G n _ 5) rfl rfl (by rw [kr_frames, kr_locals]; omega) hC rfl rfl ?_
  show kV (X, RL, 4, some .boolean, G, room_1, cs, Q) code (kgl G n S) [some (.ref b), some (.ref (kg_ad G (kbo 0))), some (.ref (kg_ad G (kbo 5))), some (.int (nI (6 * k)))] [.int r, .int r] 693
  refine kV_icmp_eq_t 721 dL_law_693 (by decide) rfl ?_
  exact kk
theorem law_count {X : kX} {G : kG} {cs : Nat × Nat} {Q : State → Prop} {b L k n : Nat} {xs : Nat → Int32} {S  : kS} {r : Int32} (hX : va_X b L xs (kx_s X) (kx_s X).heap) (hbl : b < (kx_s X).heap.size) (hbA : ¬ kg_b G ≤ b) (hL : L ≤ 3072) (hk : 6 * k + 6 ≤ L) (hG : kg_N G = 55 + 14 * n) (hC : cs.1 ≤ room_1.cells ∧ cs.2 ≤ room_1.slots) (h1 : FX5_count S (xs (6 * k + 1)) = some r) (h2 : FX6_count S (xs (6 * k + 1)) = some r) (kk : kV (X, RL, 4, some .boolean, G, room_1, cs, Q) code (kgl G n S) [some (.ref b), some (.ref (kg_ad G (kbo 0))), some (.ref (kg_ad G (kbo 5))), some (.int (nI (6 * k)))] [] 721) : kV (X, RL, 4, some .boolean, G, room_1, cs, Q) code (kgl G n S) [some (.ref b), some (.ref (kg_ad G (kbo 0))), some (.ref (kg_ad G (kbo 5))), some (.int (nI (6 * k)))] [] 698 := by
  refine kV_aloadn 699 dL_law_698 rfl rfl ?_
  refine kV_aloadn 700 dL_law_699 rfl rfl ?_
  refine kV_iloadn 701 dL_law_700 rfl rfl ?_
  refine kV_iconst 702 dL_law_701 ic_1 rfl ?_
  refine kV_iadd 703 dL_law_702 rfl ?_
  refine kV_sld (j := 1) 704 dL_law_703 hX hbl hbA rfl (by omega) hL rfl ?_
  refine kV_callV (Y := (X, RL, 4, some .boolean, G, room_1, cs, Q)) (f' := kgl G n S) (As := [.int (xs (6 * k + 1))]) (st := []) 707 dL_law_704 (okX5_count hG 0 h1) kmvX5_count (wi_r32 _ (List.mem_of_getElem? (i := 3) rfl)) (kN_obj (kOk_of hG (o := 0) rfl)) (kgl_obj G n _ 0) rfl rfl (by rw [kr_frames, kr_locals]; omega) hC rfl rfl ?_
  show kV (X, RL, 4, some .boolean, G, room_1, cs, Q) code (kgl G n S) [some (.ref b), some (.ref (kg_ad G (kbo 0))), some (.ref (kg_ad G (kbo 5))), some (.int (nI (6 * k)))] [.int r] 707
  refine kV_aloadn 708 dL_law_707 rfl rfl ?_
  refine kV_aloadn 709 dL_law_708 rfl rfl ?_
  refine kV_iloadn 710 dL_law_709 rfl rfl ?_
  refine kV_iconst 711 dL_law_710 ic_1 rfl ?_
  refine kV_iadd 712 dL_law_711 rfl ?_
  refine kV_sld (j := 1) 713 dL_law_712 hX hbl hbA rfl (by omega) hL rfl ?_
  refine kV_callV (Y := (X, RL, 4, some .boolean, G, room_1, cs, Q)) (f' := kgl G n S) (As := [.int (xs (6 * k + 1))]) (st := [.int r]) 716 dL_law_713 (okX6_count hG 0 h2) kmvX6_count (wi_r32 _ (List.mem_of_getElem? (i := 12) rfl)) (kN_obj (kOk_of hG (o := 5) rfl)) (kgl_obj G n _ 5) rfl rfl (by rw [kr_frames, kr_locals]; omega) hC rfl rfl ?_
  show kV (X, RL, 4, some .boolean, G, room_1, cs, Q) code (kgl G n S) [some (.ref b), some (.ref (kg_ad G (kbo 0))), some (.ref (kg_ad G (kbo 5))), some (.int (nI (6 * k)))] [.int r, .int r] 716
  refine kV_icmp_eq_t 721 dL_law_716 (by decide) rfl ?_
  exact kk
def kst_place (Inv : Nat → kS → Nat → Prop) : Prop := ∀ (n : Nat) (S : kS) (k : Nat) (a1 a2 a3 : Int32), k < 512 → Inv n S k → ∃ (r : Int32) (S1 S2 : kS), FX5_place n S a1 a2 a3 = some (r, S1) ∧ FX6_place S1 a1 a2 a3 = some (r, S2) ∧ Inv n S2 (k + 1)
def kst_worked (Inv : Nat → kS → Nat → Prop) : Prop := ∀ (n : Nat) (S : kS) (k : Nat) (a1 a2 a3 a4 : Int32), k < 512 → Inv n S k → ∃ (r : Int32) (S1 S2 : kS), FX5_worked n S a1 a2 a3 a4 = some (r, S1) ∧ FX6_worked S1 a1 a2 a3 a4 = some (r, S2) ∧ Inv n S2 (k + 1)
def kst_bar (Inv : Nat → kS → Nat → Prop) : Prop := ∀ (n : Nat) (S : kS) (k : Nat) (a1 a2 a3 a4 a5 : Int32), k < 512 → Inv n S k → ∃ (r : Int32) (S1 S2 : kS), FX5_bar n S a1 a2 a3 a4 a5 = some (r, S1) ∧ FX6_bar S1 a1 a2 a3 a4 a5 = some (r, S2) ∧ Inv n S2 (k + 1)
def kst_need (Inv : Nat → kS → Nat → Prop) : Prop := ∀ (n : Nat) (S : kS) (k : Nat) (a1 a2 a3 a4 : Int32), k < 512 → Inv n S k → ∃ (r : Int32) (S1 S2 : kS), FX5_need n S a1 a2 a3 a4 = some (r, S1) ∧ FX6_need S1 a1 a2 a3 a4 = some (r, S2) ∧ Inv n S2 (k + 1)
def kst_word (Inv : Nat → kS → Nat → Prop) : Prop := ∀ (n : Nat) (S : kS) (k : Nat) (a1 a2 a3 a4 : Int32), k < 512 → Inv n S k → ∃ (r : Int32) (S1 S2 : kS), FX5_word n S a1 a2 a3 a4 = some (r, S1) ∧ FX6_word S1 a1 a2 a3 a4 = some (r, S2) ∧ Inv n S2 (k + 1)
def kst_item (Inv : Nat → kS → Nat → Prop) : Prop := ∀ (n : Nat) (S : kS) (k : Nat) (a1 a2 : Int32), k < 512 → Inv n S k → ∃ (r : Int32) (S1 S2 : kS), FX5_item S a1 a2 = some (r, S1) ∧ FX6_item S1 a1 a2 = some (r, S2) ∧ Inv n S2 (k + 1)
def kst_row (Inv : Nat → kS → Nat → Prop) : Prop := ∀ (n : Nat) (S : kS) (k : Nat) (a1 a2 a3 : Int32), k < 512 → Inv n S k → ∃ (r : Int32) (S1 S2 : kS), FX5_row n S a1 a2 a3 = some (r, S1) ∧ FX6_row S1 a1 a2 a3 = some (r, S2) ∧ Inv n S2 (k + 1)
def kst_open (Inv : Nat → kS → Nat → Prop) : Prop := ∀ (n : Nat) (S : kS) (k : Nat) (a1 : Int32), k < 512 → Inv n S k → ∃ (r : Int32) (S1 S2 : kS), FX5_open n S a1 = some (r, S1) ∧ FX6_open S1 a1 = some (r, S2) ∧ Inv n S2 (k + 1)
def kst_close (Inv : Nat → kS → Nat → Prop) : Prop := ∀ (n : Nat) (S : kS) (k : Nat), k < 512 → Inv n S k → ∃ (r : Int32) (S1 S2 : kS), FX5_close S = some (r, S1) ∧ FX6_close S1 = some (r, S2) ∧ Inv n S2 (k + 1)
def kst_say (Inv : Nat → kS → Nat → Prop) : Prop := ∀ (n : Nat) (S : kS) (k : Nat) (a1 : Int32), k < 512 → Inv n S k → ∃ (r : Int32) (S1 S2 : kS), FX5_say S a1 = some (r, S1) ∧ FX6_say S1 a1 = some (r, S2) ∧ Inv n S2 (k + 1)
def kst_hear (Inv : Nat → kS → Nat → Prop) : Prop := ∀ (n : Nat) (S : kS) (k : Nat), k < 512 → Inv n S k → ∃ (r : Int32) (S1 S2 : kS), FX5_hear n S = some (r, S1) ∧ FX6_hear S1 = some (r, S2) ∧ Inv n S2 (k + 1)
def kst_back (Inv : Nat → kS → Nat → Prop) : Prop := ∀ (n : Nat) (S : kS) (k : Nat), k < 512 → Inv n S k → ∃ (r : Int32) (S1 S2 : kS), FX5_back n S = some (r, S1) ∧ FX6_back S1 = some (r, S2) ∧ Inv n S2 (k + 1)
def kst_act (Inv : Nat → kS → Nat → Prop) : Prop := ∀ (n : Nat) (S : kS) (k : Nat), k < 512 → Inv n S k → ∃ (r : Int32) (S1 S2 : kS), FX5_act n S = some (r, S1) ∧ FX6_act S1 = some (r, S2) ∧ Inv n S2 (k + 1)
def kst_worst (Inv : Nat → kS → Nat → Prop) : Prop := ∀ (n : Nat) (S : kS) (k : Nat), k < 512 → Inv n S k → ∃ (r : Int32) (S1 S2 : kS), FX5_worst n S = some (r, S1) ∧ FX6_worst S1 = some (r, S2) ∧ Inv n S2 (k + 1)
def kst_about (Inv : Nat → kS → Nat → Prop) : Prop := ∀ (n : Nat) (S : kS) (k : Nat) (a1 a2 a3 : Int32), k < 512 → Inv n S k → ∃ (r : Int32), FX5_about n S a1 a2 a3 = some r ∧ FX6_about S a1 a2 a3 = some r ∧ Inv n S (k + 1)
def kst_said (Inv : Nat → kS → Nat → Prop) : Prop := ∀ (n : Nat) (S : kS) (k : Nat) (a1 a2 a3 : Int32), k < 512 → Inv n S k → ∃ (r : Int32), FX5_said n S a1 a2 a3 = some r ∧ FX6_said S a1 a2 a3 = some r ∧ Inv n S (k + 1)
def kst_heard (Inv : Nat → kS → Nat → Prop) : Prop := ∀ (n : Nat) (S : kS) (k : Nat) (a1 : Int32), k < 512 → Inv n S k → ∃ (r : Int32), FX5_heard S a1 = some r ∧ FX6_heard S a1 = some r ∧ Inv n S (k + 1)
def kst_count (Inv : Nat → kS → Nat → Prop) : Prop := ∀ (n : Nat) (S : kS) (k : Nat) (a1 : Int32), k < 512 → Inv n S k → ∃ (r : Int32), FX5_count S a1 = some r ∧ FX6_count S a1 = some r ∧ Inv n S (k + 1)
def kst_form (Inv : Nat → kS → Nat → Prop) : Prop := ∀ (n : Nat) (S : kS) (k : Nat), k < 512 → Inv n S k → (n = 3 ∧ kI S 0 1 = 3 ∧ ∃ S2 : kS, FX6_form S = some (-4, S2) ∧ Inv n S2 (k + 1)) ∨ (n < 3 ∧ kI S 0 1 = nI n ∧ ∃ S2 : kS, FX6_form (kNew n S) = some (nI n, S2) ∧ Inv (n + 1) S2 (k + 1))
def kst_none (Inv : Nat → kS → Nat → Prop) : Prop := ∀ (n : Nat) (S : kS) (k : Nat), k < 512 → Inv n S k → n ≤ 3 ∧ Inv n S (k + 1)
def kst_all (Inv : Nat → kS → Nat → Prop) : Prop := kst_none Inv ∧ kst_form Inv ∧ kst_place Inv ∧ kst_worked Inv ∧ kst_bar Inv ∧ kst_need Inv ∧ kst_word Inv ∧ kst_item Inv ∧ kst_row Inv ∧ kst_open Inv ∧ kst_close Inv ∧ kst_say Inv ∧ kst_hear Inv ∧ kst_back Inv ∧ kst_act Inv ∧ kst_worst Inv ∧ kst_about Inv ∧ kst_said Inv ∧ kst_heard Inv ∧ kst_count Inv
theorem law_formFull {X : kX} {G : kG} {cs : Nat × Nat} {Q : State → Prop} {b k n : Nat} {S S2 : kS} (hG : kg_N G = 55 + 14 * n) (hC : cs.1 ≤ room_1.cells ∧ cs.2 ≤ room_1.slots) (h1 : kI S 0 1 = 3) (h2 : FX6_form S = some (-4, S2)) (kk : kV (X, RL, 4, some .boolean, G, room_1, cs, Q) code (kgl G n S2) [some (.ref b), some (.ref (kg_ad G (kbo 0))), some (.ref (kg_ad G (kbo 5))), some (.int (nI (6 * k)))] [] 721) : kV (X, RL, 4, some .boolean, G, room_1, cs, Q) code (kgl G n S) [some (.ref b), some (.ref (kg_ad G (kbo 0))), some (.ref (kg_ad G (kbo 5))), some (.int (nI (6 * k)))] [] 124 := by
  refine kV_aloadn 125 dL_law_124 rfl rfl ?_
  refine kV_callV (Y := (X, RL, 4, some .boolean, G, room_1, cs, Q)) (f' := kgl G n S) (As := []) (st := []) 128 dL_law_125 (okX5_formFull hG 0 h1) kmvX5_form (wi_r5 _ (List.mem_of_getElem? (i := 20) rfl)) (kN_obj (kOk_of hG (o := 0) rfl)) (kgl_obj G n _ 0) rfl rfl (by rw [kr_frames, kr_locals]; omega) hC rfl rfl ?_
  show kV (X, RL, 4, some .boolean, G, room_1, cs, Q) code (kgl G n S) [some (.ref b), some (.ref (kg_ad G (kbo 0))), some (.ref (kg_ad G (kbo 5))), some (.int (nI (6 * k)))] [.int (-4)] 128
  refine kV_aloadn 129 dL_law_128 rfl rfl ?_
  refine kV_callV (Y := (X, RL, 4, some .boolean, G, room_1, cs, Q)) (f' := kgl G n S2) (As := []) (st := [.int (-4)]) 132 dL_law_129 (okX6_form hG 0 h2) kmvX6_form (wi_r6 _ (List.mem_of_getElem? (i := 22) rfl)) (kN_obj (kOk_of hG (o := 5) rfl)) (kgl_obj G n _ 5) rfl rfl (by rw [kr_frames, kr_locals]; omega) hC rfl rfl ?_
  show kV (X, RL, 4, some .boolean, G, room_1, cs, Q) code (kgl G n S2) [some (.ref b), some (.ref (kg_ad G (kbo 0))), some (.ref (kg_ad G (kbo 5))), some (.int (nI (6 * k)))] [.int (-4), .int (-4)] 132
  refine kV_icmp_eq_t 721 dL_law_132 (by decide) rfl ?_
  exact kk
theorem law_form {X : kX} {β : Nat} {ad : Nat → Nat} {D : va_G} {cI cZ cF : ClassId} {cs : Nat × Nat} {Q : State → Prop} {b k n : Nat} {S S2 : kS} (hAO : va_AO RX0 (kx_s X)) (hn : n < 3) (hC : cs.1 + 14 ≤ room_1.cells ∧ cs.2 + 203 ≤ room_1.slots) (h1 : kI S 0 1 = nI n) (h2 : FX6_form (kNew n S) = some (nI n, S2))
    (kk : ∀ ad' : Nat → Nat, kV (X, RL, 4, some .boolean, (β, ad', 55 + 14 * (n + 1), D, cI, cZ, cF), room_1, (cs.1 + 14, cs.2 + 203), Q) code (kgl (β, ad', 55 + 14 * (n + 1), D, cI, cZ, cF) (n + 1) S2) [some (.ref b), some (.ref (ad' (kbo 0))), some (.ref (ad' (kbo 5))), some (.int (nI (6 * k)))] [] 721) : kV (X, RL, 4, some .boolean, (β, ad, 55 + 14 * n, D, cI, cZ, cF), room_1, cs, Q) code (kgl (β, ad, 55 + 14 * n, D, cI, cZ, cF) n S) [some (.ref b), some (.ref (ad (kbo 0))), some (.ref (ad (kbo 5))), some (.int (nI (6 * k)))] [] 124 := by
  refine kV_aloadn 125 dL_law_124 rfl rfl ?_
  refine kV_form 128 dL_law_125 hAO hn h1 (wi_r5 _ (List.mem_of_getElem? (i := 20) rfl)) rfl (by rw [kr_frames, kr_locals]; omega) hC rfl (fun ad' had => ?_)
  have e0 : ad (kbo 0) = ad' (kbo 0) := (had _ (by show 0 < _; omega)).symm
  have e5 : ad (kbo 5) = ad' (kbo 5) := (had _ (by show 24 < _; omega)).symm
  rw [e0, e5]
  refine kV_aloadn 129 dL_law_128 rfl rfl ?_
  refine kV_callV (Y := (X, RL, 4, some .boolean, (β, ad', 55 + 14 * (n + 1), D, cI, cZ, cF), room_1, (cs.1 + 14, cs.2 + 203), Q)) (f' := kgl (β, ad', 55 + 14 * (n + 1), D, cI, cZ, cF) (n + 1) S2) (As := []) (st := [.int (nI n)]) 132 dL_law_129 (okX6_form rfl 0 h2) kmvX6_form (wi_r6 _ (List.mem_of_getElem? (i := 22) rfl)) (kN_obj (kOk_of rfl (o := 5) rfl)) (kgl_obj (β, ad', 55 + 14 * (n + 1), D, cI, cZ, cF) (n + 1) _ 5) rfl rfl (by rw [kr_frames, kr_locals]; omega) hC rfl rfl ?_
  show kV (X, RL, 4, some .boolean, (β, ad', 55 + 14 * (n + 1), D, cI, cZ, cF), room_1, (cs.1 + 14, cs.2 + 203), Q) code (kgl (β, ad', 55 + 14 * (n + 1), D, cI, cZ, cF) (n + 1) S2) [some (.ref b), some (.ref (ad' (kbo 0))), some (.ref (ad' (kbo 5))), some (.int (nI (6 * k)))] [.int (nI n), .int (nI n)] 132
  refine kV_icmp_eq_t 721 dL_law_132 (by decide) rfl ?_
  exact kk ad'
theorem law_end {L k : Nat} (hL : L ≤ 3072) (hk : 6 * k ≤ L) : nI L - 6 < nI (6 * k) ↔ L < 6 * k + 6 := by
  have h1 : (nI L - 6).toInt = (L : Int) - 6 := by
    rcases Nat.lt_or_ge L 6 with h | h
    · have key : ∀ L, L < 6 → (nI L - 6).toInt = (L : Int) - 6 := by decide +kernel
      exact key L h
    · obtain ⟨m, rfl⟩ : ∃ m, L = m + 6 := ⟨L - 6, by omega⟩
      have e : nI (m + 6) - 6 = nI m := by
        rw [← nI_add]
        show nI m + 6 - 6 = nI m
        exact Int32.add_sub_cancel _ _
      rw [e, nI_toInt (by omega)]
      omega
  rw [Int32.lt_iff_toInt_lt, h1, nI_toInt (by omega)]
  omega
set_option maxRecDepth 10000 in
theorem law_loop {Inv : Nat → kS → Nat → Prop} (hst : kst_all Inv) {X : kX} {β : Nat} {D : va_G} {cI cZ cF : ClassId} {Q : State → Prop} {b L : Nat} {xs : Nat → Int32} (hX : va_X b L xs (kx_s X) (kx_s X).heap) (hbl : b < (kx_s X).heap.size) (hbA : ¬ β ≤ b) (hL : L ≤ 3072) (hAO : va_AO RX0 (kx_s X))
    (hend : ∀ (ad : Nat → Nat) (n : Nat) (f : Nat → va_E) (lv : List (Option Value)), n ≤ 3 → kV (X, RL, 4, some .boolean, (β, ad, 55 + 14 * n, D, cI, cZ, cF), room_1, (55 + 14 * n, 7969 + 203 * n), Q) code f lv [.int 1] 728) : ∀ (m k n : Nat) (S : kS) (ad : Nat → Nat), 6 * k ≤ L → L < 6 * k + 6 * m → n ≤ 3 → Inv n S k → kV (X, RL, 4, some .boolean, (β, ad, 55 + 14 * n, D, cI, cZ, cF), room_1, (55 + 14 * n, 7969 + 203 * n), Q) code (kgl (β, ad, 55 + 14 * n, D, cI, cZ, cF) n S) [some (.ref b), some (.ref (ad (kbo 0))), some (.ref (ad (kbo 5))), some (.int (nI (6 * k)))] [] 18
  | 0, k, n, S, ad, hk, hm, hn, hI => by omega
  | m + 1, k, n, S, ad, hk, hm, hn, hI => by
    refine kV_iloadn 19 dL_law_18 rfl rfl ?_
    refine kV_aloadn 20 dL_law_19 rfl rfl ?_
    refine kV_slen 21 dL_law_20 hX hbl hbA rfl ?_
    refine kV_bipush 23 dL_law_21 bp_6 rfl ?_
    refine kV_isub 24 dL_law_23 rfl ?_
    rcases Nat.lt_or_ge L (6 * k + 6) with hlt | hge
    · refine kV_icmp_gt_t 727 dL_law_24 (by decide) ((law_end hL hk).mpr hlt) ?_
      refine kV_iconst 728 dL_law_727 ic_1 rfl ?_
      exact hend ad n _ _ hn
    have hk6 : 6 * k + 6 ≤ L := hge
    have hk512 : k < 512 := by omega
    refine kV_icmp_gt_f 727 27 dL_law_24 (by decide) (fun h => by have := (law_end hL hk).mp h; omega) rfl ?_
    have hcs : ((55 + 14 * n, 7969 + 203 * n) : Nat × Nat).1 ≤ room_1.cells ∧ ((55 + 14 * n, 7969 + 203 * n) : Nat × Nat).2 ≤ room_1.slots := by rw [kr_cells, kr_slots]; constructor <;> dsimp only <;> omega
    have next : ∀ (ad' : Nat → Nat) (n' : Nat) (S' : kS), n' ≤ 3 → Inv n' S' (k + 1) → kV (X, RL, 4, some .boolean, (β, ad', 55 + 14 * n', D, cI, cZ, cF), room_1, (55 + 14 * n', 7969 + 203 * n'), Q) code (kgl (β, ad', 55 + 14 * n', D, cI, cZ, cF) n' S') [some (.ref b), some (.ref (ad' (kbo 0))), some (.ref (ad' (kbo 5))), some (.int (nI (6 * k)))] [] 721 := by
      intro ad' n' S' hn' hI'
      refine kV_iinc 724 [some (.ref b), some (.ref (ad' (kbo 0))), some (.ref (ad' (kbo 5))), some (.int (nI (6 * (k + 1))))] dL_law_721 rfl (by rw [kinc_6]; exact nI_add (6 * k) 6) rfl rfl rfl ?_
      refine kV_goto 18 dL_law_724 (by decide) ?_
      exact law_loop hst hX hbl hbA hL hAO hend m (k + 1) n' S' ad' (by omega) (by omega) hn' hI'
    refine kV_aloadn 28 dL_law_27 rfl rfl ?_
    refine kV_iloadn 29 dL_law_28 rfl rfl ?_
    refine kV_sld0 30 dL_law_29 hX hbl hbA (by omega) hL rfl ?_
    refine kV_bipush 32 dL_law_30 bp_31 rfl ?_
    refine kV_iand 33 dL_law_32 rfl ?_
    rcases Classical.em (xs (6 * k) &&& 31 = (0 : Int32)) with hc | hc0
    · refine kV_tableIn (off := 91) 124 dL_law_33 (by rw [hc]; decide) (by rw [hc]; decide) (by rw [hc]; decide) (by decide) ?_
      rcases hst.2.1 n S k hk512 hI with ⟨hn3, h1, S2, h2, hI2⟩ | ⟨hn3, h1, S2, h2, hI2⟩
      · exact law_formFull rfl hcs h1 h2 (next ad n S2 hn hI2)
      · exact law_form hAO hn3 (by rw [kr_cells, kr_slots]; omega) h1 h2 (fun ad' => next ad' (n + 1) S2 (by omega) hI2)
    rcases Classical.em (xs (6 * k) &&& 31 = (1 : Int32)) with hc | hc1
    · refine kV_tableIn (off := 104) 137 dL_law_33 (by rw [hc]; decide) (by rw [hc]; decide) (by rw [hc]; decide) (by decide) ?_
      obtain ⟨r, S1, S2, h1, h2, hI2⟩ := hst.2.2.1 n S k _ _ _ hk512 hI
      exact law_place hX hbl hbA hL hk6 rfl hcs h1 h2 (next ad n S2 hn hI2)
    rcases Classical.em (xs (6 * k) &&& 31 = (2 : Int32)) with hc | hc2
    · refine kV_tableIn (off := 147) 180 dL_law_33 (by rw [hc]; decide) (by rw [hc]; decide) (by rw [hc]; decide) (by decide) ?_
      obtain ⟨r, S1, S2, h1, h2, hI2⟩ := hst.2.2.2.1 n S k _ _ _ _ hk512 hI
      exact law_worked hX hbl hbA hL hk6 rfl hcs h1 h2 (next ad n S2 hn hI2)
    rcases Classical.em (xs (6 * k) &&& 31 = (3 : Int32)) with hc | hc3
    · refine kV_tableIn (off := 200) 233 dL_law_33 (by rw [hc]; decide) (by rw [hc]; decide) (by rw [hc]; decide) (by decide) ?_
      obtain ⟨r, S1, S2, h1, h2, hI2⟩ := hst.2.2.2.2.1 n S k _ _ _ _ _ hk512 hI
      exact law_bar hX hbl hbA hL hk6 rfl hcs h1 h2 (next ad n S2 hn hI2)
    rcases Classical.em (xs (6 * k) &&& 31 = (4 : Int32)) with hc | hc4
    · refine kV_tableIn (off := 263) 296 dL_law_33 (by rw [hc]; decide) (by rw [hc]; decide) (by rw [hc]; decide) (by decide) ?_
      obtain ⟨r, S1, S2, h1, h2, hI2⟩ := hst.2.2.2.2.2.1 n S k _ _ _ _ hk512 hI
      exact law_need hX hbl hbA hL hk6 rfl hcs h1 h2 (next ad n S2 hn hI2)
    rcases Classical.em (xs (6 * k) &&& 31 = (5 : Int32)) with hc | hc5
    · refine kV_tableIn (off := 316) 349 dL_law_33 (by rw [hc]; decide) (by rw [hc]; decide) (by rw [hc]; decide) (by decide) ?_
      obtain ⟨r, S1, S2, h1, h2, hI2⟩ := hst.2.2.2.2.2.2.1 n S k _ _ _ _ hk512 hI
      exact law_word hX hbl hbA hL hk6 rfl hcs h1 h2 (next ad n S2 hn hI2)
    rcases Classical.em (xs (6 * k) &&& 31 = (6 : Int32)) with hc | hc6
    · refine kV_tableIn (off := 369) 402 dL_law_33 (by rw [hc]; decide) (by rw [hc]; decide) (by rw [hc]; decide) (by decide) ?_
      obtain ⟨r, S1, S2, h1, h2, hI2⟩ := hst.2.2.2.2.2.2.2.1 n S k _ _ hk512 hI
      exact law_item hX hbl hbA hL hk6 rfl hcs h1 h2 (next ad n S2 hn hI2)
    rcases Classical.em (xs (6 * k) &&& 31 = (7 : Int32)) with hc | hc7
    · refine kV_tableIn (off := 402) 435 dL_law_33 (by rw [hc]; decide) (by rw [hc]; decide) (by rw [hc]; decide) (by decide) ?_
      obtain ⟨r, S1, S2, h1, h2, hI2⟩ := hst.2.2.2.2.2.2.2.2.1 n S k _ _ _ hk512 hI
      exact law_row hX hbl hbA hL hk6 rfl hcs h1 h2 (next ad n S2 hn hI2)
    rcases Classical.em (xs (6 * k) &&& 31 = (8 : Int32)) with hc | hc8
    · refine kV_tableIn (off := 445) 478 dL_law_33 (by rw [hc]; decide) (by rw [hc]; decide) (by rw [hc]; decide) (by decide) ?_
      obtain ⟨r, S1, S2, h1, h2, hI2⟩ := hst.2.2.2.2.2.2.2.2.2.1 n S k _ hk512 hI
      exact law_open hX hbl hbA hL hk6 rfl hcs h1 h2 (next ad n S2 hn hI2)
    rcases Classical.em (xs (6 * k) &&& 31 = (9 : Int32)) with hc | hc9
    · refine kV_tableIn (off := 468) 501 dL_law_33 (by rw [hc]; decide) (by rw [hc]; decide) (by rw [hc]; decide) (by decide) ?_
      obtain ⟨r, S1, S2, h1, h2, hI2⟩ := hst.2.2.2.2.2.2.2.2.2.2.1 n S k  hk512 hI
      exact law_close hX hbl hbA hL hk6 rfl hcs h1 h2 (next ad n S2 hn hI2)
    rcases Classical.em (xs (6 * k) &&& 31 = (10 : Int32)) with hc | hc10
    · refine kV_tableIn (off := 481) 514 dL_law_33 (by rw [hc]; decide) (by rw [hc]; decide) (by rw [hc]; decide) (by decide) ?_
      obtain ⟨r, S1, S2, h1, h2, hI2⟩ := hst.2.2.2.2.2.2.2.2.2.2.2.1 n S k _ hk512 hI
      exact law_say hX hbl hbA hL hk6 rfl hcs h1 h2 (next ad n S2 hn hI2)
    rcases Classical.em (xs (6 * k) &&& 31 = (11 : Int32)) with hc | hc11
    · refine kV_tableIn (off := 504) 537 dL_law_33 (by rw [hc]; decide) (by rw [hc]; decide) (by rw [hc]; decide) (by decide) ?_
      obtain ⟨r, S1, S2, h1, h2, hI2⟩ := hst.2.2.2.2.2.2.2.2.2.2.2.2.1 n S k  hk512 hI
      exact law_hear hX hbl hbA hL hk6 rfl hcs h1 h2 (next ad n S2 hn hI2)
    rcases Classical.em (xs (6 * k) &&& 31 = (12 : Int32)) with hc | hc12
    · refine kV_tableIn (off := 517) 550 dL_law_33 (by rw [hc]; decide) (by rw [hc]; decide) (by rw [hc]; decide) (by decide) ?_
      obtain ⟨r, S1, S2, h1, h2, hI2⟩ := hst.2.2.2.2.2.2.2.2.2.2.2.2.2.1 n S k  hk512 hI
      exact law_back hX hbl hbA hL hk6 rfl hcs h1 h2 (next ad n S2 hn hI2)
    rcases Classical.em (xs (6 * k) &&& 31 = (13 : Int32)) with hc | hc13
    · refine kV_tableIn (off := 530) 563 dL_law_33 (by rw [hc]; decide) (by rw [hc]; decide) (by rw [hc]; decide) (by decide) ?_
      obtain ⟨r, S1, S2, h1, h2, hI2⟩ := hst.2.2.2.2.2.2.2.2.2.2.2.2.2.2.1 n S k  hk512 hI
      exact law_act hX hbl hbA hL hk6 rfl hcs h1 h2 (next ad n S2 hn hI2)
    rcases Classical.em (xs (6 * k) &&& 31 = (14 : Int32)) with hc | hc14
    · refine kV_tableIn (off := 543) 576 dL_law_33 (by rw [hc]; decide) (by rw [hc]; decide) (by rw [hc]; decide) (by decide) ?_
      obtain ⟨r, S1, S2, h1, h2, hI2⟩ := hst.2.2.2.2.2.2.2.2.2.2.2.2.2.2.2.1 n S k  hk512 hI
      exact law_worst hX hbl hbA hL hk6 rfl hcs h1 h2 (next ad n S2 hn hI2)
    rcases Classical.em (xs (6 * k) &&& 31 = (15 : Int32)) with hc | hc15
    · refine kV_tableIn (off := 556) 589 dL_law_33 (by rw [hc]; decide) (by rw [hc]; decide) (by rw [hc]; decide) (by decide) ?_
      obtain ⟨r, h1, h2, hI2⟩ := hst.2.2.2.2.2.2.2.2.2.2.2.2.2.2.2.2.1 n S k _ _ _ hk512 hI
      exact law_about hX hbl hbA hL hk6 rfl hcs h1 h2 (next ad n S hn hI2)
    rcases Classical.em (xs (6 * k) &&& 31 = (16 : Int32)) with hc | hc16
    · refine kV_tableIn (off := 599) 632 dL_law_33 (by rw [hc]; decide) (by rw [hc]; decide) (by rw [hc]; decide) (by decide) ?_
      obtain ⟨r, h1, h2, hI2⟩ := hst.2.2.2.2.2.2.2.2.2.2.2.2.2.2.2.2.2.1 n S k _ _ _ hk512 hI
      exact law_said hX hbl hbA hL hk6 rfl hcs h1 h2 (next ad n S hn hI2)
    rcases Classical.em (xs (6 * k) &&& 31 = (17 : Int32)) with hc | hc17
    · refine kV_tableIn (off := 642) 675 dL_law_33 (by rw [hc]; decide) (by rw [hc]; decide) (by rw [hc]; decide) (by decide) ?_
      obtain ⟨r, h1, h2, hI2⟩ := hst.2.2.2.2.2.2.2.2.2.2.2.2.2.2.2.2.2.2.1 n S k _ hk512 hI
      exact law_heard hX hbl hbA hL hk6 rfl hcs h1 h2 (next ad n S hn hI2)
    rcases Classical.em (xs (6 * k) &&& 31 = (18 : Int32)) with hc | hc18
    · refine kV_tableIn (off := 665) 698 dL_law_33 (by rw [hc]; decide) (by rw [hc]; decide) (by rw [hc]; decide) (by decide) ?_
      obtain ⟨r, h1, h2, hI2⟩ := hst.2.2.2.2.2.2.2.2.2.2.2.2.2.2.2.2.2.2.2 n S k _ hk512 hI
      exact law_count hX hbl hbA hL hk6 rfl hcs h1 h2 (next ad n S hn hI2)
    refine kV_tableOut 721 dL_law_33 (ktab_out 18 _ (fun j hj => match j, hj with | 0, _ => hc0 | 1, _ => hc1 | 2, _ => hc2 | 3, _ => hc3 | 4, _ => hc4 | 5, _ => hc5 | 6, _ => hc6 | 7, _ => hc7 | 8, _ => hc8 | 9, _ => hc9 | 10, _ => hc10 | 11, _ => hc11 | 12, _ => hc12 | 13, _ => hc13 | 14, _ => hc14 | 15, _ => hc15 | 16, _ => hc16 | 17, _ => hc17 | 18, _ => hc18 | j + 19, hj => absurd hj (by omega))) (by decide) ?_
    exact next ad n S hn (hst.1 n S k hk512 hI).2
