/-! ===== the first relation: both are new ===== -/
def A00 : m_T := ((0, 0), (fun _ => 0), (fun _ => 0), (fun _ => 0), (0, 0, 0), fun _ => none)
theorem TA_00 : TA A00 := ⟨Nat.zero_le _, Nat.zero_le _, fun i h => absurd h (Nat.not_lt_zero _), fun i h => absurd h (Nat.not_lt_zero _), ⟨Int.le_refl _, by decide⟩, ⟨Int.le_refl _, by decide⟩, ⟨Int.le_refl _, by decide⟩, fun q c h => by cases h⟩
theorem fn_00 (f : Nat → Int) : (fun i => if i < (0 : Int).toNat then f i else 0) = fun _ => (0 : Int) := by
  funext i
  exact if_neg (Nat.not_lt_zero _)
theorem at_c00 {T : Nat → Nat → Int} (h3 : T 0 3 = 0) (h6 : T 0 6 = 0) (h7 : T 0 7 = 0) (h8 : T 0 8 = 0) (h9 : T 0 9 = 0) (hl : ∀ q, T 14 q = 0 ∧ T 15 q = 0) : at_c T = A00 := by
  have e : law_c T = fun _ => none := by
    funext q
    unfold law_c
    rw [(hl q).1, (hl q).2]
    exact if_neg (fun z => absurd z.2 (by omega))
  unfold at_c
  rw [h3, h6, h7, h8, h9, e, fn_00 (T 2), fn_00 (T 3), fn_00 (T 6)]
  rfl
theorem at_m00 {M : Nat → Nat → Int} (h15 : M 15 0 = 0) (h18 : M 18 0 = 0) (h20 : M 20 0 = 0) (h21 : M 21 0 = 0) (h22 : M 22 0 = 0) (hl : ∀ q, q < 4 → M 23 (4 * 0 + q) = -1) : at_m M 0 = A00 := by
  have e : law_m M 0 = fun _ => none := by
    funext q
    unfold law_m
    exact if_neg (fun z => z.2 (hl q z.1))
  unfold at_m
  rw [h15, h18, h20, h21, h22, e, fn_00 (fun i => M 16 (8 * 0 + i)), fn_00 (fun i => M 17 (8 * 0 + i)), fn_00 (fun i => M 19 (3 * 0 + i))]
  rfl
theorem first_RR (μ : m_M) (h : MFa μ) : RR μ := by
  obtain ⟨hs, how, -, h10, h108, ⟨h23, h50⟩, hz⟩ := h
  have z34 : ∀ b c, b ≠ 0 → b ≠ 23 → b ≠ 50 → μ 34 b c = 0 := fun b c h1 h2 h3 => hz 34 b c h1 (by omega) (by omega) (by omega) (by omega)
  have z32 : ∀ b c, b ≠ 0 → μ 32 b c = 0 := fun b c h1 => hz 32 b c h1 (by omega) (by omega) (by omega) (by omega)
  have e323 : μ 32 0 3 = 0 := (hs 32 3 (by decide +kernel)).trans (by decide +kernel)
  have e326 : μ 32 0 6 = 0 := (hs 32 6 (by decide +kernel)).trans (by decide +kernel)
  have e327 : μ 32 0 7 = 0 := (hs 32 7 (by decide +kernel)).trans (by decide +kernel)
  have e328 : μ 32 0 8 = 0 := (hs 32 8 (by decide +kernel)).trans (by decide +kernel)
  have e329 : μ 32 0 9 = 0 := (hs 32 9 (by decide +kernel)).trans (by decide +kernel)
  have e40 : μ 4 0 0 = 3200 := (hs 4 0 (by decide +kernel)).trans (by decide +kernel)
  have e12 : μ 1 0 2 = 3200 := (hs 1 2 (by decide +kernel)).trans (by decide +kernel)
  have e13 : μ 1 0 3 = 3300 := (hs 1 3 (by decide +kernel)).trans (by decide +kernel)
  have e1a : μ 1 0 1 = 0 := (hs 1 1 (by decide +kernel)).trans (by decide +kernel)
  have e1s : μ 1 0 13 = 1 := (hs 1 13 (by decide +kernel)).trans (by decide +kernel)
  have e1f : μ 1 0 14 = 0 := (hs 1 14 (by decide +kernel)).trans (by decide +kernel)
  have e1p : μ 1 0 15 = -1 := (hs 1 15 (by decide +kernel)).trans (by decide +kernel)
  have e61 : μ 6 0 1 = 0 := (hs 6 1 (by decide +kernel)).trans (by decide +kernel)
  have e62 : μ 6 0 2 = 0 := (hs 6 2 (by decide +kernel)).trans (by decide +kernel)
  have e73 : μ 7 0 3 = -1 := (hs 7 3 (by decide +kernel)).trans (by decide +kernel)
  have e80 : μ 8 0 0 = 0 := (hs 8 0 (by decide +kernel)).trans (by decide +kernel)
  have e91 : μ 9 0 1 = 0 := (hs 9 1 (by decide +kernel)).trans (by decide +kernel)
  have e100 : μ 10 0 0 = 0 := (hs 10 0 (by decide +kernel)).trans (by decide +kernel)
  have e101 : μ 10 0 1 = 0 := (hs 10 1 (by decide +kernel)).trans (by decide +kernel)
  have e109 : μ 10 0 9 = 0 := (hs 10 9 (by decide +kernel)).trans (by decide +kernel)
  have m1 : μ 34 0 1 = 0 := (hs 34 1 (by decide +kernel)).trans (by decide +kernel)
  have m10 : μ 34 0 10 = 0 := (hs 34 10 (by decide +kernel)).trans (by decide +kernel)
  have m11 : μ 34 0 11 = -1 := (hs 34 11 (by decide +kernel)).trans (by decide +kernel)
  have m13 : μ 34 0 13 = 0 := (hs 34 13 (by decide +kernel)).trans (by decide +kernel)
  have m52 : μ 34 0 52 = 0 := (hs 34 52 (by decide +kernel)).trans (by decide +kernel)
  have m53 : μ 34 0 53 = 0 := (hs 34 53 (by decide +kernel)).trans (by decide +kernel)
  have m54 : μ 34 0 54 = 1 := (hs 34 54 (by decide +kernel)).trans (by decide +kernel)
  have m60 : μ 34 0 60 = 0 := (hs 34 60 (by decide +kernel)).trans (by decide +kernel)
  have m66 : μ 34 0 66 = 0 := (hs 34 66 (by decide +kernel)).trans (by decide +kernel)
  have z : tw_nc A00 = 0 ∧ tw_nk A00 = 0 := ⟨rfl, rfl⟩
  refine ⟨A00, 32, 33, 0, ⟨⟨rfl, by rw [e40]; rfl, at_c00 e323 e326 e327 e328 e329 (fun q => ⟨z32 14 q (by decide), z32 15 q (by decide)⟩), TA_00, by omega, by omega, fun q _ => ?_⟩, ⟨by rw [m13]; rfl, by decide, at_m00 (z34 15 0 (by decide) (by decide) (by decide)) (z34 18 0 (by decide) (by decide) (by decide)) (z34 20 0 (by decide) (by decide) (by decide)) (z34 21 0 (by decide) (by decide) (by decide)) (z34 22 0 (by decide) (by decide) (by decide)) (fun q hq => by rw [h23, if_pos (by omega)]), TA_00, ?_, ?_, fun q hq hn => ?_⟩, ⟨by rw [e12]; rfl, by rw [e13]; rfl⟩, Or.inl ⟨rfl, rfl⟩, fun i hi => absurd hi (Nat.not_lt_zero _), fun i hi => absurd hi (Nat.not_lt_zero _)⟩, ⟨?_, ?_, ?_⟩, ⟨0, 0, 0, ⟨by decide, by decide, by decide⟩, ⟨e62, e61, m53, m52⟩, fun k hk => absurd hk (Nat.not_lt_zero _)⟩, ⟨0, by decide, e1a, m1, fun i hi => absurd hi (Nat.not_lt_zero _)⟩, ⟨⟨by rw [m54, e1s], ?_⟩, ⟨by rw [m10, e1f], by rw [m11, e1p]⟩, fun i _ => ?_⟩, ⟨0, by decide, e80, m60, fun i hi => absurd hi (Nat.not_lt_zero _)⟩, Or.inl e73, ⟨0, by decide, e91, m66, fun i hi => absurd hi (Nat.not_lt_zero _)⟩, how⟩
  · rw [z32 14 q (by decide), z32 15 q (by decide)]; omega
  · rw [z34 15 0 (by decide) (by decide) (by decide)]; omega
  · rw [z34 18 0 (by decide) (by decide) (by decide)]; omega
  · exact absurd (by rw [h23, if_pos (by omega)]) hn
  · refine ⟨by omega, by omega, ⟨by omega, by omega⟩, fun k hk => ⟨by rw [h108 k hk]; omega, fun _ => h108 k hk⟩, fun c hc => Or.inl ⟨(h10 c hc).2.2.1, (h10 c hc).2.2.2.1, (h10 c hc).2.2.2.2, Or.inl ⟨(h10 c hc).1, (h10 c hc).2.1⟩⟩, fun c e hc _ _ _ hn => absurd (h10 c hc).1 hn⟩
  · refine ⟨⟨?_, ?_, ?_⟩, fun i hi => ⟨?_, ?_, ?_, ?_, ?_⟩, fun k hk => ?_, fun i hi => ?_⟩
    · rw [mK00, e100]; exact z34 43 0 (by decide) (by decide) (by decide)
    · rw [mK01, e101]; exact z34 44 0 (by decide) (by decide) (by decide)
    · rw [mK09, e109]; exact z34 51 0 (by decide) (by decide) (by decide)
    · rw [mK_f z _ _ (by decide)]; exact (h10 i hi).1.symm
    · rw [mK_f z _ _ (by decide)]; exact (h10 i hi).2.1.symm
    · rw [mK_f z _ _ (by decide)]; exact (h10 i hi).2.2.1.symm
    · rw [mK6, z34 49 0 (by decide) (by decide) (by decide), tb_0, (h10 i hi).2.2.2.1]; rfl
    · rw [mK7, (h10 i hi).2.2.2.2]; exact z34 48 _ (by decide) (by decide) (by decide)
    · rw [mK8, h108 k hk, h50, if_pos (by omega)]
    · rw [mK09, z34 51 0 (by decide) (by decide) (by decide)] at hi; omega
  · rw [z34 49 0 (by decide) (by decide) (by decide)]; omega
  · rw [e1s]; unfold bt; omega
  · rw [z34 42 i (by decide) (by decide) (by decide)]; exact (hz 1 13 i (by omega) (by omega) (by omega) (by omega) (by omega)).symm
theorem whole_start {p : Program} {e : Env} {s : State} {m : MethodId} {below : List Frame} {meth : Method} {c : Code} (l : Launch) (hflags : l.flags = flags0) {b L : Nat} {xs : Nat → Int32} (hL : L ≤ 3072) (C0 : lw_At p s m meth c b L xs) : W p l e room_1 s m #[Value.ref b] below meth c s.heap [] 0 0 (lw_Z below #[Value.ref b] s) (entryFrame m ([Value.ref b] : List Value).toArray 4) := law_start first_RR l hL C0
