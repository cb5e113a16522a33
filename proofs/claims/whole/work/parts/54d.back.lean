/-! back -/
theorem m_backZ (S : kS) (L : kS → Int32 → Option (Int32 × kS)) (h : kI S 5 26 = 0) : (kb (kI S 5 26) fun x1 => if x1 = 0 then some ((-3 : Int32), S) else (kb (kI S 5 26) fun x2 => kb (kpI S 5 26 (x2 - (1 : Int32))) fun S1 => L S1 (0 : Int32))) = some (-3, S) := by
  rw [h]
  show (if (0 : Int32) = 0 then some ((-3 : Int32), S) else L (kpI S 5 26 (0 - 1)) 0) = _
  exact if_pos rfl
theorem st_back : kst_back Inv := fun n S k hk hI => by
  obtain ⟨α, rfl, hw, hc, hm⟩ := hI
  have h3 := hw.1.1
  have h10 := hw.2.2.2.2.2.1.1
  by_cases h0 : α 0 5 0 = 0
  · refine ⟨-3, S, S, ?_, ?_, inv_same rfl hw hc hm⟩
    · unfold FX5_back
      rw [h_size hc.2.2.2.1, h0, Option.bind_some, if_neg (by decide)]
    · have hk : kI S 5 26 = 0 := by rw [← nI_0, ← h0]; exact hm.2.2.1.1
      exact m_backZ S FX6_back_L22 hk
  · obtain ⟨nx, n1, n2, n3, n4, n5⟩ := hc.2.2.2.1
    obtain ⟨S1, c0, z0, z4, zo, z6⟩ := c_back hc h3 h10 h0 n1 n2
    have z5 : S1 5 = S 5 := zo 5 (by omega) (by omega) (by omega)
    have hm1 : RM (S1 5) α := by rw [z5]; exact hm
    obtain ⟨S2, d0, m2, m3, m4, m5, m6⟩ := m_back hm1 h10 h0
    rw [z5] at m3 m4 m5 m6
    refine ⟨_, S1, S2, c0, d0, ?_⟩
    obtain ⟨w1, w2, w3, w4, w5, w6, w7, w8, w9⟩ := hw
    refine inv_fin (α := αback α) rfl ⟨⟨w1.1, fun g hg => ?_, fun g hg1 hg2 => ?_⟩, w2, w3, w4, w5, ⟨?_, fun j f p hj => ?_⟩, fun h => absurd h (Nat.not_lt_zero _), by show α 0 6 0 ≤ k + 1; omega, w9⟩ (S1 := S1) ⟨?_, ?_, ?_, ?_, fun g hg => ?_⟩ (fun o ho => m2 o ho) ⟨?_, ?_, ?_, ?_, fun g hg => ?_⟩
    · obtain ⟨p1, p2, p3, p4⟩ := w1.2.1 g hg
      exact ⟨p1, fun p hp => w6.2 (α 0 5 0 - 1) g p (by omega) (by have hg : g < α 0 0 0 := hg; omega) hp, p3, p4⟩
    · have := w1.2.2 g hg1 hg2
      refine ⟨this.1, this.2.1, fun p hp => ?_⟩
      exact (w6.2 (α 0 5 0 - 1) g p (by omega) hg2 hp).2 (by rw [this.1]; omega)
    · show α 0 5 0 - 1 ≤ 10; omega
    · have hj : j < α 0 5 0 - 1 := hj
      exact w6.2 j f p (by omega)
    · rw [z0]
      obtain ⟨t1, t2, t3, t4, t5, t6, t7⟩ := hc.1
      exact ⟨t1, t2, t3, t4, t5, nO_0.symm, fun h => absurd h (Nat.not_lt_zero _)⟩
    · rw [zo 1 (by omega) (by omega) (by omega)]; exact hc.2.1
    · rw [zo 2 (by omega) (by omega) (by omega)]; exact hc.2.2.1
    · rw [z4]
      refine ⟨(nx + 9) % 10, by omega, by simp only [Nat.reduceEqDiff, if_false, if_true], by simp only [if_true]; rfl, fun j x hj hx => ?_, n5⟩
      have hj : j < α 0 5 0 - 1 := hj
      show (S 4).2 0 (15 * (((nx + 9) % 10 + 10 - (α 0 5 0 - 1) + j) % 10) + x) = nI (α 26 j x) ∧ (S 4).2 1 (15 * (((nx + 9) % 10 + 10 - (α 0 5 0 - 1) + j) % 10) + x) = nO (α 27 j x)
      rw [show ((nx + 9) % 10 + 10 - (α 0 5 0 - 1) + j) % 10 = (nx + 10 - α 0 5 0 + j) % 10 by omega]
      exact n4 j x (by omega) hx
    · have hg : g < α 0 0 0 := hg
      obtain ⟨p1, p2, p3, p4⟩ := hc.2.2.2.2 g hg
      obtain ⟨u1, u2, u3, u4⟩ := z6 g hg
      unfold RF
      rw [u1, u2, u3, u4 1 (by omega) (by omega), u4 2 (by omega) (by omega), u4 3 (by omega) (by omega), u4 4 (by omega) (by omega), u4 8 (by omega) (by omega), u4 9 (by omega) (by omega), u4 10 (by omega) (by omega), u4 11 (by omega) (by omega), u4 12 (by omega) (by omega), u4 13 (by omega) (by omega), u4 14 (by omega) (by omega)]
      have ei : (nx + 10 - α 0 5 0 + (α 0 5 0 - 1)) % 10 = (nx + 9) % 10 := by omega
      refine ⟨p1, ⟨fun p hp => ?_, fun p hp => ?_⟩, p3, p4⟩
      · have := (n4 (α 0 5 0 - 1) (5 * g + p) (by omega) (by omega)).1
        rw [ei] at this
        show va_cpy _ _ _ _ _ p = nI (α 26 (α 0 5 0 - 1) (5 * g + p))
        unfold va_cpy
        rw [if_pos (by omega), ← this, show 15 * ((nx + 9) % 10) + 5 * g + (p - 0) = 15 * ((nx + 9) % 10) + (5 * g + p) by omega]
      · have := (n4 (α 0 5 0 - 1) (5 * g + p) (by omega) (by omega)).2
        rw [ei] at this
        show va_cpy _ _ _ _ _ p = nO (α 27 (α 0 5 0 - 1) (5 * g + p))
        unfold va_cpy
        rw [if_pos (by omega), ← this, show 15 * ((nx + 9) % 10) + 5 * g + (p - 0) = 15 * ((nx + 9) % 10) + (5 * g + p) by omega]
    · obtain ⟨t1, t2, t3, t4, t5, t6, t7, t8⟩ := hm.1
      unfold MT
      simp only [m3]
      rw [m6 24 (by omega) (by omega), m6 32 (by omega) (by omega)]
      exact ⟨t1, t2, t3, t4, t5, nO_0.symm, fun h => absurd h (Nat.not_lt_zero _), t8⟩
    · unfold MR
      simp only [m3]
      rw [m6 17 (by omega) (by omega), m6 18 (by omega) (by omega), m6 19 (by omega) (by omega), m6 20 (by omega) (by omega), m6 21 (by omega) (by omega), m6 22 (by omega) (by omega)]
      exact hm.2.1
    · unfold MH
      simp only [m3]
      rw [m6 27 (by omega) (by omega), m6 28 (by omega) (by omega)]
      obtain ⟨t1, t2, t3⟩ := hm.2.2.1
      refine ⟨rfl, fun j x hj hx => ?_, fun j x hj hx => ?_⟩
      · have hj : j < α 0 5 0 - 1 := hj
        exact t2 j x (by omega) hx
      · have hj : j < α 0 5 0 - 1 := hj
        exact t3 j x (by omega) hx
    · obtain ⟨t1, t2, t3, t4⟩ := hm.2.2.2.1
      unfold MS
      rw [m6 2 (by omega) (by omega), m6 9 (by omega) (by omega)]
      refine ⟨t1, t2, fun g p hg hp => ?_, fun g p hg hp => ?_⟩
      · rw [m4 _ (by omega)]
        exact hm.2.2.1.2.1 (α 0 5 0 - 1) (5 * g + p) (by omega) (by omega)
      · rw [m5 _ (by omega)]
        exact hm.2.2.1.2.2 (α 0 5 0 - 1) (5 * g + p) (by omega) (by omega)
    · unfold MF
      rw [m6 3 (by omega) (by omega), m6 4 (by omega) (by omega), m6 5 (by omega) (by omega), m6 6 (by omega) (by omega), m6 10 (by omega) (by omega), m6 11 (by omega) (by omega), m6 12 (by omega) (by omega), m6 13 (by omega) (by omega), m6 14 (by omega) (by omega), m6 15 (by omega) (by omega)]
      exact hm.2.2.2.2 g hg
