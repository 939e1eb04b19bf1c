set_option maxRecDepth 20000 in
set_option maxHeartbeats 1000000 in
theorem cm_fires {G : m_G} {d b v kn : Nat} {μ : m_M} {A : m_T} (hT : MT μ b A) (hv : v < 22) (hB : BI A (mB (μ 34) v)) (h49 : 0 ≤ μ 34 49 v ∧ μ 34 49 v < 256) (hk : kn < tw_nk A) {heat : Int} (hh : 0 ≤ heat ∧ heat ≤ 20) (hn : b_cnt (mB (μ 34) v) kn ≠ 0) {K : m_M → Prop} (h : ∀ μ1, ofL v μ μ1 → μ1 34 0 57 = μ 34 0 57 → (0 ≤ μ1 34 49 v ∧ μ1 34 49 v < 256) → beq (mB (μ1 34) v) (p_F A (mB (μ 34) v) kn heat) → K μ1) : c_v G (d + 6) YX12_fires [vR 34 0, vI (v : Int), vI (kn : Int), vI heat] μ K := by
  have hTA := hT.2.2.2.1
  have hk3 : kn < 3 := Nat.lt_of_lt_of_le hk hTA.2.1
  have hnc := hTA.1
  have hrm := hTA.2.2.2.1 kn hk
  have hwk := hB.1
  have hsw : sm (μ 34 43 v) := by unfold sm; rw [mB00] at hwk; omega
  obtain ⟨B, eB⟩ : ∃ B, B = mB (μ 34) v := ⟨_, rfl⟩
  have hu := hB.uniq kn
  have hf9 : ∃ f : Nat, μ 34 51 v = (f : Int) ∧ f < 8 := by
    obtain ⟨j, -, j2, j3⟩ := m_cnt_pos 8 0 (Nat.pos_of_ne_zero hn)
    have j3 : mB (μ 34) v 3 j = (kn : Int) := by simpa using j3
    have := (m_cnt_lt (p := fun c => mB (μ 34) v 5 c != -1) (q := fun _ => true) 8 0 (fun _ _ _ _ => rfl)).2 ⟨j, by omega, by omega, by have := ((hB.2.2.2.2.1 j (by omega)).raw j3).1; simp [this], rfl⟩
    have h8 : m_cnt (fun _ => true) 0 8 = 8 := rfl
    have h9 := hB.2.2.1
    rw [mB09] at h9
    exact ⟨(μ 34 51 v).toNat, by omega, by omega⟩
  obtain ⟨f, hf1, hf8⟩ := hf9
  refine EX12_fires (fun X C R => ?_)
  -- the children leave the kiln
  have L2 : ∀ (r i : Nat) (μ1 : m_M), i + r = tw_nc A → ofL v μ μ1 → (∀ b c, b ≠ 45 → b ≠ 46 → b ≠ 47 → b ≠ 48 → b ≠ 49 → b ≠ 56 → b ≠ 57 → μ1 34 b c = μ 34 b c) →
      (∀ c, c < 8 → μ1 34 45 (8 * v + c) = (if B 3 c = (kn : Int) ∧ c < i then -1 else B 3 c) ∧ μ1 34 46 (8 * v + c) = (if B 3 c = (kn : Int) ∧ c < i then -1 else B 4 c)) →
      (∀ c, c < 8 → μ1 34 47 (8 * v + c) = if B 3 c = (kn : Int) then sRing A B heat c else B 5 c) → (∀ c, c < 8 → μ1 34 48 (8 * v + c) = if B 3 c = (kn : Int) then s7 A B kn heat (tw_room A kn) c else B 7 c) →
      (0 ≤ μ1 34 49 v ∧ μ1 34 49 v < 256) → (∀ c, c < 8 → (if tb (μ1 34 49 v) c then (1 : Int) else 0) = if B 3 c = (kn : Int) then sCrk A B heat c else B 6 c) →
      mW G X YX12_fires μ1 166 [some (vR 34 0), some (vI (v : Int)), some (vI (kn : Int)), some (vI heat), some (vI (sCnt A B kn heat (tw_room A kn).toNat 0)), some (vI (i : Int)), none, none] [] := by
    intro r
    induction r with
    | zero =>
      intro i μ1 hi f1 hu1 h45 h47 h48 hb9 h6
      have T1 := hT.ofL f1
      refine VX12_fires_166 C R ?_
      rw [T1.1, Int.toNat_natCast, T1.nc, w_3b (by omega) hk3, Int.toNat_natCast]
      refine ⟨⟨by have := hT.2.1; omega, by have := hT.2.1; omega⟩, fun _ => ⟨⟨by omega, by omega⟩, fun μ2 e2 => ?_⟩, fun q => absurd (by omega) q⟩
      have e51 : μ2 34 51 v = (f : Int) := by rw [e2, m_up_ne _ _ (by omega), hu1 51 v (by decide) (by decide) (by decide) (by decide) (by decide) (by decide) (by decide)]; exact hf1
      refine cm_writesDown hv e51 hf8 ?_
      have e43 : μ2 34 43 v = μ 34 43 v := by rw [e2, m_up_ne _ _ (by omega), hu1 43 v (by decide) (by decide) (by decide) (by decide) (by decide) (by decide) (by decide)]
      rw [e43]
      generalize hμ3 : m_up (m_up (m_up (m_up (m_up μ2 34 52 (160 * v + 4 * f) (μ 34 43 v)) 34 52 (160 * v + 4 * f + 1) (kn : Int)) 34 52 (160 * v + 4 * f + 2) heat) 34 52 (160 * v + 4 * f + 3) (sCnt A B kn heat (tw_room A kn).toNat 0)) 34 51 v ((f : Int) + 1) = μ3
      have i3 : inL v 34 50 (3 * v + kn) := ⟨rfl, by omega⟩
      have f2 : ofL v μ μ2 := by rw [e2]; exact f1.tr (ofL.up i3)
      have f3 : ofL v μ μ3 := by
        rw [← hμ3]
        exact ((((f2.tr (ofL.up ⟨rfl, by omega⟩)).tr (ofL.up ⟨rfl, by omega⟩)).tr (ofL.up ⟨rfl, by omega⟩)).tr (ofL.up ⟨rfl, by omega⟩)).tr (ofL.up ⟨rfl, by omega⟩)
      have g : ∀ b c, b ≠ 50 → b ≠ 51 → b ≠ 52 → μ3 34 b c = μ1 34 b c := fun b c q0 q1 q2 => by
        rw [← hμ3, m_up_ne _ _ (fun z => q1 z.2.1), m_up_ne _ _ (fun z => q2 z.2.1), m_up_ne _ _ (fun z => q2 z.2.1), m_up_ne _ _ (fun z => q2 z.2.1), m_up_ne _ _ (fun z => q2 z.2.1), e2, m_up_ne _ _ (fun z => q0 z.2.1)]
      refine h μ3 f3 ?_ ?_ ?_
      · rw [g 0 57 (by decide) (by decide) (by decide)]; exact hu1 0 57 (by decide) (by decide) (by decide) (by decide) (by decide) (by decide) (by decide)
      · rw [g 49 v (by decide) (by decide) (by decide)]; exact hb9
      · rw [← eB]
        have hB' : BI A B := by rw [eB]; exact hB
        have e9 : B 0 9 = (f : Int) := by rw [eB, mB09]; exact hf1
        refine ⟨⟨?_, ?_, ?_⟩, fun c hc => ?_, fun k hk' => ?_, fun j hj => ?_⟩
        · rw [p_F_0 (by decide), mB00, g 43 v (by decide) (by decide) (by decide), hu1 43 v (by decide) (by decide) (by decide) (by decide) (by decide) (by decide) (by decide), eB]; rfl
        · rw [p_F_0 (by decide), mB01, g 44 v (by decide) (by decide) (by decide), hu1 44 v (by decide) (by decide) (by decide) (by decide) (by decide) (by decide) (by decide), eB]; rfl
        · rw [p_F_09, mB09, ← hμ3, m_up_at, e9]
        · rw [mB3, mB4, mB5, mB6, mB7, g 45 _ (by decide) (by decide) (by decide), g 46 _ (by decide) (by decide) (by decide), g 47 _ (by decide) (by decide) (by decide), g 48 _ (by decide) (by decide) (by decide), g 49 _ (by decide) (by decide) (by decide), (h45 c hc).1, (h45 c hc).2, h47 c hc, h48 c hc, h6 c hc]
          by_cases q : B 3 c = (kn : Int)
          · have hcn := hB'.nc c hc q
            obtain ⟨k3, k4, k5, k6, k7⟩ := p_F_in (heat := heat) hB' hc q
            rw [k3, k4, k5, k6, k7, if_pos ⟨q, by omega⟩, if_pos ⟨q, by omega⟩, if_pos q, if_pos q, if_pos q]
            exact ⟨rfl, rfl, rfl, rfl, rfl⟩
          · rw [if_neg (fun z => q z.1), if_neg (fun z => q z.1), if_neg q, if_neg q, if_neg q, p_F_out (fun z => q z.2) (by omega), p_F_out (fun z => q z.2) (by omega), p_F_out (fun z => q z.2) (by omega), p_F_out (fun z => q z.2) (by omega), p_F_out (fun z => q z.2) (by omega)]
            exact ⟨rfl, rfl, rfl, rfl, rfl⟩
        · rw [p_F_8, mB8, ← hμ3, m_up_ne _ _ (by omega), m_up_ne _ _ (by omega), m_up_ne _ _ (by omega), m_up_ne _ _ (by omega), m_up_ne _ _ (by omega), e2]
          by_cases q : k = kn
          · rw [if_pos q, q, m_up_at]
          · rw [if_neg q, m_up_ne _ _ (by omega), hu1 50 _ (by decide) (by decide) (by decide) (by decide) (by decide) (by decide) (by decide), eB]; rfl
        · rw [mB09, ← hμ3, m_up_at] at hj
          rw [p_F_9, mB9, e9, Int.toNat_natCast, ← hμ3, m_up_ne _ _ (by omega)]
          by_cases q3 : j = 4 * f + 3
          · rw [if_pos q3, q3, show 160 * v + (4 * f + 3) = 160 * v + 4 * f + 3 by omega, m_up_at]
          rw [if_neg q3, m_up_ne _ _ (by omega)]
          by_cases q2 : j = 4 * f + 2
          · rw [if_pos q2, q2, show 160 * v + (4 * f + 2) = 160 * v + 4 * f + 2 by omega, m_up_at]
          rw [if_neg q2, m_up_ne _ _ (by omega)]
          by_cases q1 : j = 4 * f + 1
          · rw [if_pos q1, q1, show 160 * v + (4 * f + 1) = 160 * v + 4 * f + 1 by omega, m_up_at]
          rw [if_neg q1, m_up_ne _ _ (by omega)]
          by_cases q0 : j = 4 * f
          · rw [if_pos q0, q0, m_up_at, eB]; rfl
          rw [if_neg q0, m_up_ne _ _ (by omega), e2, m_up_ne _ _ (by omega), hu1 52 _ (by decide) (by decide) (by decide) (by decide) (by decide) (by decide) (by decide), eB]; rfl
    | succ r ih =>
      intro i μ1 hi f1 hu1 h45 h47 h48 hb9 h6
      have T1 := hT.ofL f1
      refine VX12_fires_166 C R ?_
      have h45i := (h45 i (by omega)).1
      rw [if_neg (by omega)] at h45i
      rw [T1.1, Int.toNat_natCast, T1.nc, w_8b (by omega) (by omega), Int.toNat_natCast, h45i]
      refine ⟨⟨by have := hT.2.1; omega, by have := hT.2.1; omega⟩, fun q => absurd q (by omega), fun _ => ⟨⟨by omega, by omega⟩, fun q => ⟨⟨by omega, by omega⟩, fun μ3 e3 => ⟨⟨by omega, by omega⟩, fun μ4 e4 x5 e5 => ?_⟩⟩, fun q x6 e6 => ?_⟩⟩
      · rw [w32_s (by omega)] at e5
        subst e5
        have g : ∀ b c, b ≠ 45 → b ≠ 46 → μ4 34 b c = μ1 34 b c := fun b c q0 q1 => by rw [e4, m_up_ne _ _ (fun z => q1 z.2.1), e3, m_up_ne _ _ (fun z => q0 z.2.1)]
        refine ih (i + 1) μ4 (by omega) ?_ (fun b c q1 q2 q3 q4 q5 q6 q7 => (g b c q1 q2).trans (hu1 b c q1 q2 q3 q4 q5 q6 q7)) (fun c hc => ?_) (fun c hc => (g 47 _ (by decide) (by decide)).trans (h47 c hc)) (fun c hc => (g 48 _ (by decide) (by decide)).trans (h48 c hc)) (by rw [g 49 _ (by decide) (by decide)]; exact hb9) (fun c hc => by rw [g 49 _ (by decide) (by decide)]; exact h6 c hc)
        · rw [e4, e3]; exact (f1.tr (ofL.up ⟨rfl, by omega⟩)).tr (ofL.up ⟨rfl, by omega⟩)
        · obtain ⟨ha, hb⟩ := h45 c hc
          by_cases ec : c = i
          · subst ec
            rw [if_pos ⟨q, by omega⟩, if_pos ⟨q, by omega⟩, e4, m_up_ne _ _ (by omega), e3, m_up_at, m_up_at]
            exact ⟨rfl, rfl⟩
          · have e1 : (B 3 c = (kn : Int) ∧ c < i + 1) ↔ (B 3 c = (kn : Int) ∧ c < i) := by omega
            simp only [e1]
            rw [e4, m_up_ne _ _ (by omega), m_up_ne _ _ (by omega), e3, m_up_ne _ _ (by omega), m_up_ne _ _ (by omega)]
            exact ⟨ha, hb⟩
      · rw [w32_s (by omega)] at e6
        subst e6
        refine ih (i + 1) μ1 (by omega) f1 hu1 (fun c hc => ?_) h47 h48 hb9 h6
        obtain ⟨ha, hb⟩ := h45 c hc
        by_cases ec : c = i
        · subst ec
          rw [if_neg (fun z => q z.1)] at ha hb ⊢
          rw [if_neg (fun z => q z.1)]
          exact ⟨ha, hb⟩
        · have e1 : (B 3 c = (kn : Int) ∧ c < i + 1) ↔ (B 3 c = (kn : Int) ∧ c < i) := by omega
          simp only [e1]
          exact ⟨ha, hb⟩
  obtain ⟨Zc, hZc⟩ : ∃ Zc, Zc = sCnt A (mB (μ 34) v) kn heat 6 0 := ⟨_, rfl⟩
  have L : ∀ (r p : Nat) (n : Nat) (μ1 : m_M), p + r = 6 → n ≤ p → FI A kn heat v μ p p μ1 → (n : Int) + sCnt A (mB (μ 34) v) kn heat r p = Zc → mW G X YX12_fires μ1 6 [some (vR 34 0), some (vI (v : Int)), some (vI (kn : Int)), some (vI heat), some (vI (n : Int)), some (vI (p : Int)), none, none] [] := by
    intro r
    induction r with
    | zero =>
      intro p n μ1 hp hn' hF hc
      have hp6 : p = 6 := by omega
      subst hp6
      obtain ⟨a1, a2, a3, a4, a5, a6⟩ := hF
      refine VX12_fires_6 C R ⟨fun _ => ?_, fun q => absurd (by omega) q⟩
      have hB' : BI A B := by rw [eB]; exact hB
      have e6 : sCnt A B kn heat 6 0 = sCnt A B kn heat (tw_room A kn).toNat 0 := by
        rw [show 6 = (tw_room A kn).toNat + (6 - (tw_room A kn).toNat) by omega, sCnt_add, sCnt_top hB' (6 - (tw_room A kn).toNat) _ (by omega), Int.add_zero]
      have ec : (n : Int) = sCnt A B kn heat (tw_room A kn).toNat 0 := by
        rw [← e6]
        rw [← eB] at hZc
        rw [← hZc, ← hc]
        unfold sCnt
        omega
      rw [ec]
      rw [← eB] at a3 a4 a6
      have hin : ∀ c, c < 8 → B 3 c = (kn : Int) → B 4 c < tw_room A kn := fun c hc z => ((hB'.2.2.2.2.1 c hc).raw z).2.2.2.2.2.2
      refine L2 (tw_nc A) 0 μ1 (by omega) a1 (fun b c _ _ q3 q4 q5 q6 q7 => a2 b c q3 q4 q5 q6 q7) (fun c hc => ?_) (fun c hc => ?_) (fun c hc => ?_) a5 (fun c hc => ?_)
      · rw [if_neg (by omega), if_neg (by omega), a2 45 _ (by decide) (by decide) (by decide) (by decide) (by decide), a2 46 _ (by decide) (by decide) (by decide) (by decide) (by decide), eB]
        exact ⟨rfl, rfl⟩
      · rw [a3 c hc]
        by_cases q : B 3 c = (kn : Int)
        · rw [if_pos ⟨q, by have := hin c hc q; omega⟩, if_pos q]
        · rw [if_neg (fun z => q z.1), if_neg q]
      · rw [a4 c hc]
        by_cases q : B 3 c = (kn : Int)
        · rw [if_pos q, if_pos q]
          exact s7_top hB' (by omega) (hin c hc q)
        · rw [if_neg q, if_neg q]
      · rw [a6 c hc]
        by_cases q : B 3 c = (kn : Int)
        · rw [if_pos ⟨q, by have := hin c hc q; omega⟩, if_pos q]
        · rw [if_neg (fun z => q z.1), if_neg q]
    | succ r ih =>
      intro p n μ1 hp hn' hF hc
      have f1 := hF.1
      have T1 := hT.ofL f1
      have e45 : ∀ c, μ1 34 45 c = μ 34 45 c := fun c => hF.2.1 45 c (by decide) (by decide) (by decide) (by decide) (by decide)
      have e46 : ∀ c, μ1 34 46 c = μ 34 46 c := fun c => hF.2.1 46 c (by decide) (by decide) (by decide) (by decide) (by decide)
      have e43 : μ1 34 43 v = μ 34 43 v := hF.2.1 43 v (by decide) (by decide) (by decide) (by decide) (by decide)
      refine VX12_fires_6 C R ⟨fun q => absurd q (by omega), fun _ => cm_inPlace T1 hv (cm_inPlace T1 hv ?_)⟩
      simp only [e45, e46]
      rw [mB_who hTA hB, mB_who hTA hB, w32_s (by omega)]
      unfold sCnt at hc
      rcases b_who_spec (mB (μ 34) v) kn p with ⟨q1, q2⟩ | ⟨c, q1, q2, q3, q4, -⟩
      · -- nobody is there
        rw [q1]
        rw [if_pos q1, Int.zero_add] at hc
        refine ⟨fun z => absurd rfl z, fun _ x15 e15 => ?_⟩
        subst e15
        refine ih (p + 1) n μ1 (by omega) (by omega) ?_ hc
        obtain ⟨a1, a2, a3, a4, a5, a6⟩ := hF
        have hne : ∀ e, e < 8 → mB (μ 34) v 3 e = (kn : Int) → mB (μ 34) v 4 e ≠ (p : Int) := fun e he z3 z4 => q2 e he ⟨z3, z4⟩
        refine ⟨a1, a2, fun e he => ?_, fun e he => ?_, a5, fun e he => ?_⟩
        · rw [a3 e he]
          have e1 : (mB (μ 34) v 3 e = (kn : Int) ∧ mB (μ 34) v 4 e < ((p + 1 : Nat) : Int)) ↔ (mB (μ 34) v 3 e = (kn : Int) ∧ mB (μ 34) v 4 e < (p : Int)) := by
            constructor
            · intro z; have := hne e he z.1; omega
            · intro z; omega
          simp only [e1]
        · rw [a4 e he]
          by_cases z3 : mB (μ 34) v 3 e = (kn : Int)
          · rw [if_pos z3, if_pos z3, show ((p + 1 : Nat) : Int) + 1 = (p : Int) + 2 by omega]
            by_cases z4 : mB (μ 34) v 4 e = (p : Int) + 1
            · rw [s7_r z4, q1, sStk_m2]; simp
            · rw [s7_same (hne e he z3) z4]
          · rw [if_neg z3, if_neg z3]
        · rw [a6 e he]
          have e1 : (mB (μ 34) v 3 e = (kn : Int) ∧ mB (μ 34) v 4 e < ((p + 1 : Nat) : Int)) ↔ (mB (μ 34) v 3 e = (kn : Int) ∧ mB (μ 34) v 4 e < (p : Int)) := by
            constructor
            · intro z; have := hne e he z.1; omega
            · intro z; omega
          simp only [e1]
      · rw [q1]
        rw [if_neg (by omega), q1, Int.toNat_natCast] at hc
        have hcn := hB.nc c q2 q3
        refine ⟨fun _ => ?_, fun z => absurd z (by omega)⟩
        have hone : ∀ e, e < 8 → mB (μ 34) v 3 e = (kn : Int) → mB (μ 34) v 4 e = (p : Int) → e = c := fun e he z3 z4 => hu e c he q2 z3 q3 (z4.trans q4.symm)
        refine cm_ring T1 hv hcn (by unfold sm; omega) (by unfold sm; omega) (by rw [e43]; exact hsw) (fun μ8 o8 => ?_)
        rw [w_8b (by omega) q2, Int.toNat_natCast, e43]
        refine ⟨⟨by omega, by omega⟩, fun μ10 e10 => ?_⟩
        have h10 : offM (m_up μ1 34 47 (8 * v + c) (p_ring A c heat p (μ 34 43 v))) μ10 := fun a b' c' ha => by
          rw [e10]
          unfold m_up
          split
          · rfl
          · exact o8 a b' c' ha
        have hsr : p_ring A c heat p (μ 34 43 v) = sRing A (mB (μ 34) v) heat c := by unfold sRing; rw [q4, mB00]
        have f10 : ofL v μ μ10 := (f1.tr (ofL.up ⟨rfl, by omega⟩)).tr (ofL.of h10)
        have T10 := hT.ofL f10
        have e43' : μ10 34 43 v = μ 34 43 v := by rw [h10 34 43 v (by omega), m_up_ne _ _ (by omega)]; exact e43
        refine cm_crk T10 hv hcn (by unfold sm; omega) (by unfold sm; omega) (by rw [e43']; exact hsw) (fun μ11 o11 => ?_)
        rw [e43']
        have h11 := h10.tr o11
        -- what stands in memory now but for the cracks
        have g11 : ∀ b c', b ≠ 56 → b ≠ 57 → μ11 34 b c' = m_up μ1 34 47 (8 * v + c) (p_ring A c heat p (μ 34 43 v)) 34 b c' := fun b c' z1 z2 => h11 34 b c' (by omega)
        have J : ∀ (μ' : m_M) (n' : Nat), n' ≤ p + 1 → (n' : Int) + sCnt A (mB (μ 34) v) kn heat r (p + 1) = Zc → FI A kn heat v μ ((p + 1 : Nat) : Int) p μ' → mW G X YX12_fires μ' 95 [some (vR 34 0), some (vI (v : Int)), some (vI (kn : Int)), some (vI heat), some (vI (n' : Int)), some (vI (p : Int)), some (vI (c : Int)), some (vI (b_who (mB (μ 34) v) kn ((p + 1 : Nat) : Int)))] [] := by
          intro μ' n' hn'' hc' hF'
          have T' := hT.ofL hF'.1
          have e43'' : μ' 34 43 v = μ 34 43 v := hF'.2.1 43 v (by decide) (by decide) (by decide) (by decide) (by decide)
          refine VX12_fires_95 C R ⟨fun z x1 e1 => ?_, fun z => ?_⟩
          · rw [w32_s (by omega)] at e1
            subst e1
            refine ih (p + 1) n' μ' (by omega) hn'' ?_ hc'
            obtain ⟨a1, a2, a3, a4, a5, a6⟩ := hF'
            refine ⟨a1, a2, a3, fun e he => ?_, a5, a6⟩
            rw [a4 e he]
            by_cases z3 : mB (μ 34) v 3 e = (kn : Int)
            · rw [if_pos z3, if_pos z3, show ((p + 1 : Nat) : Int) + 1 = (p : Int) + 2 by omega]
              by_cases z4 : mB (μ 34) v 4 e = (p : Int)
              · rw [s7_l z4, show (p : Int) + 1 = ((p + 1 : Nat) : Int) by omega, z, sStk_m1]; simp
              · have z5 : mB (μ 34) v 4 e ≠ (p : Int) + 1 := fun z5 => by
                  have := who_of hu he z3 z5
                  rw [show (p : Int) + 1 = ((p + 1 : Nat) : Int) by omega, z] at this
                  omega
                rw [s7_same z4 z5]
            · rw [if_neg z3, if_neg z3]
          · rcases b_who_spec (mB (μ 34) v) kn ((p + 1 : Nat) : Int) with ⟨w1, -⟩ | ⟨e, w1, w2, w3, w4, -⟩
            · exact absurd w1 z
            · rw [w1]
              have hen := hB.nc e w2 w3
              have hce : c ≠ e := fun q => by rw [q] at q4; omega
              refine cm_stk T' hv hcn hen (by unfold sm; omega) (by omega) (by rw [e43'']; exact hsw) (fun μ2 o2 => ?_)
              rw [e43'']
              have hst : (p_stk A c e (p_abs (p_ring A c heat p (μ 34 43 v) - p_ring A e heat ((p : Int) + 1) (μ 34 43 v))) heat (μ 34 43 v)) = sStk A (mB (μ 34) v) heat c e := by
                unfold sStk
                rw [Int.toNat_natCast, Int.toNat_natCast]
                have k1 : ((c : Int) != -1) = true := by simp
                have k2 : ((e : Int) != -1) = true := by simp
                rw [k1, k2]
                unfold sRing
                rw [q4, w4, mB00, show ((p + 1 : Nat) : Int) = (p : Int) + 1 by omega]
                rfl
              rw [hst]
              have F2 := hF'.off o2
              obtain ⟨a1, a2, a3, a4, a5, a6⟩ := F2
              refine ⟨fun zz => ?_, fun zz x7 e7 => ?_⟩
              · have hs : sStk A (mB (μ 34) v) heat c e = true := by
                  by_cases q : sStk A (mB (μ 34) v) heat c e = true
                  · exact q
                  · rw [if_neg q] at zz; exact absurd rfl zz
                rw [w_8b (by omega) q2, w_8b (by omega) w2, Int.toNat_natCast, Int.toNat_natCast]
                refine ⟨⟨by omega, by omega⟩, ⟨by omega, by omega⟩, fun μ4 e4 => ⟨⟨by omega, by omega⟩, ⟨by omega, by omega⟩, fun μ5 e5 x6 e6 => ?_⟩⟩
                rw [w32_s (by omega)] at e6
                subst e6
                have e48c : μ2 34 48 (8 * v + c) = s7 A (mB (μ 34) v) kn heat ((p : Int) + 1) c := by rw [a4 c q2, if_pos q3]
                have e48e : μ2 34 48 (8 * v + e) = s7 A (mB (μ 34) v) kn heat ((p : Int) + 1) e := by rw [a4 e w2, if_pos w3]
                have g5 : ∀ b c', b ≠ 48 → μ5 34 b c' = μ2 34 b c' := fun b c' q => by rw [e5, m_up_ne _ _ (fun z => q z.2.1), e4, m_up_ne _ _ (fun z => q z.2.1)]
                refine ih (p + 1) n' μ5 (by omega) hn'' ?_ hc'
                refine ⟨?_, fun b c' z1 z2 z3 z4 z5 => (g5 b c' z2).trans (a2 b c' z1 z2 z3 z4 z5), fun i hi => by rw [g5 47 _ (by decide)]; exact a3 i hi, fun i hi => ?_, by rw [g5 49 _ (by decide)]; exact a5, fun i hi => by rw [g5 49 _ (by decide)]; exact a6 i hi⟩
                · rw [e5, e4]; exact (a1.tr (ofL.up ⟨rfl, by omega⟩)).tr (ofL.up ⟨rfl, by omega⟩)
                · rw [show ((p + 1 : Nat) : Int) + 1 = (p : Int) + 2 by omega]
                  by_cases i1 : i = c
                  · subst i1
                    rw [if_pos q3, s7_l q4, show (p : Int) + 1 = ((p + 1 : Nat) : Int) by omega, w1, if_pos hs, e5, m_up_ne _ _ (by omega), e4, m_up_at, e48c, show ((p + 1 : Nat) : Int) = (p : Int) + 1 by omega]
                  · by_cases i2 : i = e
                    · subst i2
                      rw [if_pos w3, s7_r (by rw [w4]; omega), q1, if_pos hs, e5, m_up_at, e4, m_up_ne _ _ (by omega), e48e]
                    · rw [e5, m_up_ne _ _ (by omega), e4, m_up_ne _ _ (by omega), a4 i hi]
                      by_cases z3 : mB (μ 34) v 3 i = (kn : Int)
                      · rw [if_pos z3, if_pos z3, s7_same (fun z => i1 (hone i hi z3 z)) (fun z => i2 (hu i e hi w2 z3 w3 (by rw [z, w4]; omega)))]
                      · rw [if_neg z3, if_neg z3]
              · have hs : ¬ sStk A (mB (μ 34) v) heat c e = true := fun q => by rw [if_pos q] at zz; omega
                rw [w32_s (by omega)] at e7
                subst e7
                refine ih (p + 1) n' μ2 (by omega) hn'' ?_ hc'
                refine ⟨a1, a2, a3, fun i hi => ?_, a5, a6⟩
                rw [a4 i hi, show ((p + 1 : Nat) : Int) + 1 = (p : Int) + 2 by omega]
                by_cases z3 : mB (μ 34) v 3 i = (kn : Int)
                · rw [if_pos z3, if_pos z3]
                  by_cases i1 : i = c
                  · subst i1
                    rw [s7_l q4, show (p : Int) + 1 = ((p + 1 : Nat) : Int) by omega, w1, if_neg hs]
                  · by_cases i2 : i = e
                    · subst i2
                      rw [s7_r (by rw [w4]; omega), q1, if_neg hs]
                    · rw [s7_same (fun z => i1 (hone i hi z3 z)) (fun z => i2 (hu i e hi w2 z3 w3 (by rw [z, w4]; omega)))]
                · rw [if_neg z3, if_neg z3]
        obtain ⟨a1, a2, a3, a4, a5, a6⟩ := hF
        have hkeep : ∀ b c', b ≠ 47 → b ≠ 56 → b ≠ 57 → μ11 34 b c' = μ1 34 b c' := fun b c' z1 z2 z3 => by rw [g11 b c' z2 z3, m_up_ne _ _ (fun z => z1 z.2.1)]
        have f11 : ofL v μ μ11 := f10.tr (ofL.of o11)
        have e47 : ∀ i, i < 8 → μ11 34 47 (8 * v + i) = if mB (μ 34) v 3 i = (kn : Int) ∧ mB (μ 34) v 4 i < ((p + 1 : Nat) : Int) then sRing A (mB (μ 34) v) heat i else mB (μ 34) v 5 i := fun i hi => by
          rw [g11 47 _ (by decide) (by decide)]
          by_cases i1 : i = c
          · subst i1
            rw [m_up_at, if_pos ⟨q3, by omega⟩, hsr]
          · rw [m_up_ne _ _ (by omega), a3 i hi]
            have e1 : (mB (μ 34) v 3 i = (kn : Int) ∧ mB (μ 34) v 4 i < ((p + 1 : Nat) : Int)) ↔ (mB (μ 34) v 3 i = (kn : Int) ∧ mB (μ 34) v 4 i < (p : Int)) := by
              constructor
              · intro z
                have : mB (μ 34) v 4 i ≠ (p : Int) := fun z4 => i1 (hone i hi z.1 z4)
                omega
              · intro z; omega
            simp only [e1]
        have oth : ∀ i, i < 8 → i ≠ c → ((mB (μ 34) v 3 i = (kn : Int) ∧ mB (μ 34) v 4 i < ((p + 1 : Nat) : Int)) ↔ (mB (μ 34) v 3 i = (kn : Int) ∧ mB (μ 34) v 4 i < (p : Int))) := fun i hi i1 => by
          constructor
          · intro z
            have : mB (μ 34) v 4 i ≠ (p : Int) := fun z4 => i1 (hone i hi z.1 z4)
            omega
          · intro z; omega
        have hcr : sCrk A (mB (μ 34) v) heat c = if p_crk A c heat p (μ 34 43 v) then 1 else 0 := by unfold sCrk; rw [q4, mB00]
        have e49 : μ11 34 49 v = μ1 34 49 v := hkeep 49 v (by decide) (by decide) (by decide)
        refine ⟨fun z => ?_, fun z => ⟨⟨by omega, by omega⟩, ⟨by omega, by omega⟩, fun μ13 e13 x14 e14 => ?_⟩⟩
        · -- it does not crack
          have hno : ¬ p_crk A c heat p (μ 34 43 v) = true := fun q => by rw [if_pos q] at z; omega
          rw [if_neg hno] at hcr
          refine J μ11 n (by omega) (by rw [hcr] at hc; omega) ⟨f11, fun b c' z1 z2 z3 z4 z5 => (hkeep b c' z1 z4 z5).trans (a2 b c' z1 z2 z3 z4 z5), e47, fun i hi => by rw [hkeep 48 _ (by decide) (by decide) (by decide)]; exact a4 i hi, by rw [e49]; exact a5, fun i hi => ?_⟩
          rw [e49, a6 i hi]
          by_cases i1 : i = c
          · subst i1
            rw [if_pos (show mB (μ 34) v 3 i = (kn : Int) ∧ mB (μ 34) v 4 i < ((p + 1 : Nat) : Int) from ⟨q3, by omega⟩), if_neg (show ¬ (mB (μ 34) v 3 i = (kn : Int) ∧ mB (μ 34) v 4 i < (p : Int)) by omega), hcr]
            exact ((hB.2.2.2.2.1 i q2).raw q3).2.1
          · simp only [oth i hi i1]
        · have hyes : p_crk A c heat p (μ 34 43 v) = true := by
            by_cases q : p_crk A c heat p (μ 34 43 v) = true
            · exact q
            · rw [if_neg q] at z; exact absurd rfl z
          rw [if_pos hyes] at hcr
          rw [w32_s (by omega)] at e14
          subst e14
          rw [Int.toNat_natCast, e49] at e13
          have g13 : ∀ b c', b ≠ 49 → μ13 34 b c' = μ11 34 b c' := fun b c' q => by rw [e13, m_up_ne _ _ (fun z => q z.2.1)]
          refine J μ13 (n + 1) (by omega) (by rw [hcr] at hc; omega) ⟨?_, fun b c' z1 z2 z3 z4 z5 => (g13 b c' z3).trans ((hkeep b c' z1 z4 z5).trans (a2 b c' z1 z2 z3 z4 z5)), fun i hi => by rw [g13 47 _ (by decide)]; exact e47 i hi, fun i hi => by rw [g13 48 _ (by decide), hkeep 48 _ (by decide) (by decide) (by decide)]; exact a4 i hi, ?_, fun i hi => ?_⟩
          · rw [e13]; exact f11.tr (ofL.up ⟨rfl, by omega⟩)
          · rw [e13, m_up_at]; exact or8 a5 (by omega)
          · rw [e13, m_up_at, tb_or (bt_s a5) (bt_shl (by omega)), tb_shl (by omega)]
            by_cases i1 : i = c
            · subst i1
              rw [if_pos (show mB (μ 34) v 3 i = (kn : Int) ∧ mB (μ 34) v 4 i < ((p + 1 : Nat) : Int) from ⟨q3, by omega⟩), hcr]
              simp
            · simp only [oth i hi i1]
              rw [← a6 i hi]
              have : decide (c = i) = false := by simp; omega
              rw [this, Bool.or_false]
  refine L 6 0 0 μ (by omega) (by omega) ⟨ofL.rf v μ, fun _ _ _ _ _ _ _ => rfl, fun c hc => ?_, fun c hc => ?_, h49, fun c hc => ?_⟩ (by rw [hZc]; omega)
  · by_cases q : mB (μ 34) v 3 c = (kn : Int)
    · rw [if_neg (fun z => by have := hB.pl c hc q; omega)]; rfl
    · rw [if_neg (fun z => q z.1)]; rfl
  · by_cases q : mB (μ 34) v 3 c = (kn : Int)
    · rw [if_pos q]
      have h4 := hB.pl c hc q
      unfold s7
      rw [if_neg (fun z => by have := z.1; omega)]
      by_cases z0 : mB (μ 34) v 4 c = 0
      · rw [z0, show (0 : Int) - 1 = -1 by omega, who_m (B := mB (μ 34) v) (p := -1) (fun e he z => by have := hB.pl e he z.1; have := z.2; omega), sStk_m2]
        simp; rfl
      · rw [if_neg (fun z => by have := z.1; omega)]; rfl
    · rw [if_neg q]; rfl
  · have hno : ¬ (mB (μ 34) v 3 c = (kn : Int) ∧ mB (μ 34) v 4 c < ((0 : Nat) : Int)) := fun z => by have := hB.pl c hc z.1; omega
    rw [if_neg hno]; rfl
