/-! the number depends on what is sure alone -/
def sim (α β : kα) (f : Nat) : Prop := ∀ c j, c ≠ 6 → β c f j = α c f j
theorem sim_ap {α β : kα} {f : Nat} (h : sim α β f) (p v : Nat) : sim (ap α f p v) (ap β f p v) f := fun c j hc => by
  by_cases h7 : c = 7
  · subst h7; rw [ap_7, ap_7, h 7 j (by omega)]
  · rw [ap_o _ _ _ _ _ _ _ hc h7, ap_o _ _ _ _ _ _ _ hc h7, h c j hc]
theorem sim_sv {α β : kα} {f : Nat} (h : sim α β f) (p : Nat) : sv β f p = sv α f p := by
  unfold sv
  simp only [h 2 _ (by omega), h 3 _ (by omega), h 4 _ (by omega), h 5 _ (by omega), h 7 _ (by omega)]
theorem sim_wgo {α β : kα} {f q : Nat} (h : sim α β f) : ∀ (k r : Nat) (fr : Bool), wgo β f q k r fr = wgo α f q k r fr
  | 0, r, fr => rfl
  | k + 1, r, fr => by
    unfold wgo
    rw [sim_wgo h k (r + 1) false, sim_wgo h k (r + 1) fr, h 9 r (by omega), h 10 r (by omega), h 11 r (by omega), h 12 r (by omega), sim_sv h]
theorem sim_bgo {α β : kα} {f : Nat} (h : sim α β f) : ∀ (k r : Nat), bgo β f k r = bgo α f k r
  | 0, r => rfl
  | k + 1, r => by
    unfold bgo
    rw [sim_bgo h k (r + 1), h 9 r (by omega), h 10 r (by omega), h 11 r (by omega), h 12 r (by omega), h 13 r (by omega), sim_sv h, sim_sv h]
theorem sim_wanted {α β : kα} {f : Nat} (h : sim α β f) (p : Nat) : wanted β f p = wanted α f p := by
  unfold wanted
  rw [sim_wgo h, h 2 p (by omega), h 8 0 (by omega)]
theorem sim_broken {α β : kα} {f : Nat} (h : sim α β f) : broken β f = broken α f := by
  unfold broken
  rw [sim_bgo h, h 8 0 (by omega)]
theorem sim_ask {α β : kα} {f : Nat} (h : sim α β f) (p : Nat) : ask β f p = ask α f p := by
  unfold ask
  rw [sim_wanted h, h 1 0 (by omega), h 7 p (by omega)]
theorem sim_uns {α β : kα} {f : Nat} (h : sim α β f) : uns β f = uns α f := by
  unfold uns un1
  simp only [h 1 _ (by omega), h 2 _ (by omega), h 7 _ (by omega)]
theorem sim_asks {α β : kα} {f : Nat} (h : sim α β f) : asks β f = asks α f := by
  unfold asks as1
  simp only [sim_ask h]
theorem sim_wby {W : kα → Nat} {α β : kα} {f p : Nat} (h : sim α β f) (hW : ∀ γ δ, sim γ δ f → W δ = W γ) : ∀ (k v r : Nat), wby W β f p k v r = wby W α f p k v r
  | 0, v, r => rfl
  | k + 1, v, r => by
    rw [wby_s, wby_s, sim_broken (sim_ap h p v), hW _ _ (sim_ap h p v)]
    exact sim_wby h hW k (v + 1) _
theorem sim_wof {W : kα → Nat} {α β : kα} {f : Nat} (h : sim α β f) (hW : ∀ γ δ, sim γ δ f → W δ = W γ) : ∀ (k p r : Nat), wof W β f k p r = wof W α f k p r
  | 0, p, r => rfl
  | k + 1, p, r => by
    rw [wof_s, wof_s, sim_ask h]
    unfold WB
    rw [sim_wby h hW, h 3 p (by omega)]
    exact sim_wof h hW k (p + 1) _
theorem sim_V : ∀ (m : Nat) {α β : kα} {f : Nat}, sim α β f → V m β f = V m α f
  | 0, α, β, f, h => rfl
  | m + 1, α, β, f, h => by
    rw [V_s, V_s]
    unfold Wst
    rw [sim_asks h, sim_wof h (fun γ δ h => sim_V m h), h 1 0 (by omega)]
theorem sim_VV {α β : kα} {f : Nat} (h : sim α β f) : VV β f = VV α f := by
  unfold VV
  rw [sim_uns h, sim_V _ h]
/-! states that differ from a first one in what is sure of one form -/
def sameB (α0 α : kα) (f : Nat) : Prop := (∀ c g j, c ≠ 6 → c ≠ 7 → α c g j = α0 c g j) ∧ (∀ c g j, g ≠ f → α c g j = α0 c g j) ∧ (∀ j, 5 ≤ j → α 7 f j = α0 7 f j)
theorem sameB_refl (α : kα) (f : Nat) : sameB α α f := ⟨fun _ _ _ _ _ => rfl, fun _ _ _ _ => rfl, fun _ _ => rfl⟩
theorem sameB_ap {α0 α : kα} {f p v : Nat} (h : sameB α0 α f) (hp : p < 5) : sameB α0 (ap α f p v) f := by
  refine ⟨fun c g j h6 h7 => ?_, fun c g j hg => ?_, fun j hj => ?_⟩
  · rw [ap_o _ _ _ _ _ _ _ h6 h7]; exact h.1 c g j h6 h7
  · rw [ap_ne _ _ _ _ _ _ _ hg]; exact h.2.1 c g j hg
  · rw [ap_7, if_neg (by omega)]; exact h.2.2 j hj
theorem sameB_sim {α0 α β : kα} {f : Nat} (ha : sameB α0 α f) (hb : sameB α0 β f) (h : ∀ p, p < 5 → β 7 f p = α 7 f p) : sim α β f := fun c j hc => by
  by_cases h7 : c = 7
  · subst h7
    rcases Nat.lt_or_ge j 5 with q | q
    · exact h j q
    · rw [ha.2.2 j q, hb.2.2 j q]
  · rw [ha.1 c f j hc h7, hb.1 c f j hc h7]
/-- a form's places, rules and words stay well formed -/
theorem wfS_ap {α : kα} {f p v : Nat} (hs : wfS α f) (hp : p < α 1 f 0) (hk : α 2 f p ≠ 1) (hv : v < α 3 f p) : wfS (ap α f p v) f := fun q hq => by
  rw [ap_6, ap_7]
  unfold cok
  rw [ap_o α f p v 1 f 0 (by omega) (by omega), ap_o α f p v 2 f q (by omega) (by omega), ap_o α f p v 3 f q (by omega) (by omega)]
  by_cases e : q = p
  · subst e
    rw [if_pos rfl, if_pos rfl]
    exact ⟨fun _ => ⟨Nat.pow_lt_pow_right (by omega) hv, by omega, fun _ => by rw [Nat.add_sub_cancel]⟩, fun h => absurd ⟨hp, hk⟩ h⟩
  · rw [if_neg e, if_neg e]
    exact hs q hq
theorem wfP_same {α0 α : kα} {f : Nat} (h : sameB α0 α f) (hw : wfP α0 f) : wfP α f := by
  unfold wfP at hw ⊢
  simp only [h.1 1 _ _ (by omega) (by omega), h.1 2 _ _ (by omega) (by omega), h.1 3 _ _ (by omega) (by omega), h.1 4 _ _ (by omega) (by omega), h.1 5 _ _ (by omega) (by omega)]
  exact hw
theorem wfR_same {α0 α : kα} {f : Nat} (h : sameB α0 α f) (hw : wfR α0 f) : wfR α f := by
  unfold wfR at hw ⊢
  simp only [h.1 1 _ _ (by omega) (by omega), h.1 2 _ _ (by omega) (by omega), h.1 3 _ _ (by omega) (by omega), h.1 8 _ _ (by omega) (by omega), h.1 9 _ _ (by omega) (by omega), h.1 10 _ _ (by omega) (by omega), h.1 11 _ _ (by omega) (by omega), h.1 12 _ _ (by omega) (by omega), h.1 13 _ _ (by omega) (by omega)]
  exact hw
/-- the reference's number of a state -/
def encM (α : kα) (f : Nat) : Nat := α 7 f 0 + 5 * α 7 f 1 + 25 * α 7 f 2 + 125 * α 7 f 3 + 625 * α 7 f 4
def dig (α : kα) (f : Nat) : Prop := ∀ p, p < 5 → α 7 f p ≤ 4
theorem dig_wf {α : kα} {f : Nat} (hw : wfP α f) (hs : wfS α f) : dig α f := fun p hp => (wf_su hw hs hp).1
theorem encM_lt {α : kα} {f : Nat} (h : dig α f) : encM α f < 3125 := by
  have a0 := h 0 (by omega); have a1 := h 1 (by omega); have a2 := h 2 (by omega); have a3 := h 3 (by omega); have a4 := h 4 (by omega)
  unfold encM
  omega
theorem encM_inj {α β : kα} {f : Nat} (ha : dig α f) (hb : dig β f) (h : encM α f = encM β f) : ∀ p, p < 5 → β 7 f p = α 7 f p := by
  have a0 := ha 0 (by omega); have a1 := ha 1 (by omega); have a2 := ha 2 (by omega); have a3 := ha 3 (by omega); have a4 := ha 4 (by omega)
  have b0 := hb 0 (by omega); have b1 := hb 1 (by omega); have b2 := hb 2 (by omega); have b3 := hb 3 (by omega); have b4 := hb 4 (by omega)
  unfold encM at h
  intro p hp
  rcases (show p = 0 ∨ p = 1 ∨ p = 2 ∨ p = 3 ∨ p = 4 by omega) with rfl | rfl | rfl | rfl | rfl
  · omega
  · omega
  · omega
  · omega
  · omega
/-- what the reference keeps while it plans -/
def memM (m : kO) (α0 : kα) (f : Nat) : Prop := ∀ β, sameB α0 β f → dig β f → m.2 44 (encM β f) = -1 ∨ m.2 44 (encM β f) = nI (VV β f)
def PM (S0 S : kS) (α0 α : kα) (f : Nat) : Prop := (∀ o, o ≠ 5 → S o = S0 o) ∧ (S 5).1 = (S0 5).1 ∧ (∀ c, c ≠ 7 → c ≠ 8 → c ≠ 44 → (S 5).2 c = (S0 5).2 c) ∧ MS (S 5) α ∧ memM (S 5) α0 f
theorem PM_MF {S0 S : kS} {α0 α : kα} {f : Nat} (h : PM S0 S α0 α f) (hb : sameB α0 α f) (hM : MF (S0 5) α0 f) : MF (S 5) α f := by
  unfold MF at hM ⊢
  simp only [hb.1 1 _ _ (by omega) (by omega), hb.1 2 _ _ (by omega) (by omega), hb.1 3 _ _ (by omega) (by omega), hb.1 4 _ _ (by omega) (by omega), hb.1 5 _ _ (by omega) (by omega), hb.1 8 _ _ (by omega) (by omega), hb.1 9 _ _ (by omega) (by omega), hb.1 10 _ _ (by omega) (by omega), hb.1 11 _ _ (by omega) (by omega), hb.1 12 _ _ (by omega) (by omega), hb.1 13 _ _ (by omega) (by omega), hb.1 14 _ _ (by omega) (by omega), hb.1 15 _ _ (by omega) (by omega), h.2.2.1 3 (by omega) (by omega) (by omega), h.2.2.1 4 (by omega) (by omega) (by omega), h.2.2.1 5 (by omega) (by omega) (by omega), h.2.2.1 6 (by omega) (by omega) (by omega), h.2.2.1 10 (by omega) (by omega) (by omega), h.2.2.1 11 (by omega) (by omega) (by omega), h.2.2.1 12 (by omega) (by omega) (by omega), h.2.2.1 13 (by omega) (by omega) (by omega), h.2.2.1 14 (by omega) (by omega) (by omega), h.2.2.1 15 (by omega) (by omega) (by omega)]
  exact hM
/-- the reference writes a place's set and whether it is sure -/
theorem PM_put {S0 S : kS} {α0 α γ : kα} {f p : Nat} {x y : Int32} (h : PM S0 S α0 γ f) (hf : f < 3) (hp : p < 5) (hc : ∀ g q, ¬ (g = f ∧ q = p) → α 6 g q = γ 6 g q ∧ α 7 g q = γ 7 g q) (h1 : ∀ g, α 1 g 0 = γ 1 g 0) (h8 : ∀ g, α 8 g 0 = γ 8 g 0) (hx : x = nI (α 6 f p)) (hy : y = if α 7 f p = 0 then 0 else 1) : PM S0 (kpR (kpR S 5 7 (upd ((S 5).2 7) (5 * f + p) x)) 5 8 (upd ((S 5).2 8) (5 * f + p) y)) α0 α f := by
  obtain ⟨p1, p2, p3, ⟨m1, m2, m3, m4⟩, p5⟩ := h
  refine ⟨fun o ho => by rw [pR_ne ho, pR_ne ho]; exact p1 o ho, ?_, fun c h7 h8 h44 => ?_, ⟨fun g hg => ?_, fun g hg => ?_, fun g q hg hq => ?_, fun g q hg hq => ?_⟩, p5⟩
  · rw [← p2]; rfl
  · rw [pR_2, if_neg (fun h => h8 h.2), pR_2, if_neg (fun h => h7 h.2)]; exact p3 c h7 h8 h44
  · rw [h1 g]; exact m1 g hg
  · rw [h8 g]; exact m2 g hg
  · rw [pR_2, if_neg (by omega), pR_2, if_pos ⟨rfl, rfl⟩, upd_eq]
    by_cases e : g = f ∧ q = p
    · rw [if_pos (by omega), e.1, e.2, hx]
    · rw [if_neg (by omega), (hc g q e).1]; exact m3 g q hg hq
  · rw [pR_2, if_pos ⟨rfl, rfl⟩, upd_eq]
    by_cases e : g = f ∧ q = p
    · rw [if_pos (by omega), e.1, e.2, hy]
    · rw [if_neg (by omega), (hc g q e).2]; exact m4 g q hg hq
