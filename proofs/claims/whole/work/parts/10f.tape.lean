/-! ===== which part reads what ===== -/
def rd_town (a b c : Nat) : Prop := a = 32 ∨ a = 33 ∨ (a = 1 ∧ b = 0 ∧ (c = 2 ∨ c = 3)) ∨ (a = 4 ∧ b = 0 ∧ c = 0) ∨ (a = 34 ∧ ((b = 0 ∧ c = 13) ∨ (15 ≤ b ∧ b ≤ 28)))
def rd_now (a b c : Nat) : Prop := a = 10 ∨ (a = 34 ∧ ((b = 43 ∨ b = 44 ∨ b = 49 ∨ b = 51) ∧ c = 0 ∨ (45 ≤ b ∧ b ≤ 48) ∧ c < 8 ∨ b = 50 ∧ c < 3 ∨ b = 52 ∧ c < 160))
def rd_undo (a b c : Nat) : Prop := a = 6 ∨ (12 ≤ a ∧ a ≤ 31) ∨ (a = 34 ∧ ((b = 0 ∧ (c = 52 ∨ c = 53)) ∨ ((b = 43 ∨ b = 44 ∨ b = 49 ∨ b = 51) ∧ 2 ≤ c) ∨ ((45 ≤ b ∧ b ≤ 48) ∧ 16 ≤ c) ∨ (b = 50 ∧ 6 ≤ c) ∨ (b = 52 ∧ 320 ≤ c)))
def rd_tape (a b c : Nat) : Prop := (a = 1 ∨ a = 34) ∧ (b = 1 ∨ (b = 0 ∧ c = 1))
def rd_misc (a b c : Nat) : Prop := (a = 1 ∧ (b = 13 ∨ (b = 0 ∧ 13 ≤ c ∧ c ≤ 15))) ∨ (a = 34 ∧ (b = 42 ∨ (b = 0 ∧ (c = 54 ∨ c = 10 ∨ c = 11))))
def rd_see (a b c : Nat) : Prop := (a = 8 ∧ (b = 5 ∨ (b = 0 ∧ c = 0))) ∨ (a = 34 ∧ ((62 ≤ b ∧ b ≤ 64) ∨ (b = 0 ∧ c = 60)))
def rd_best (a : Nat) : Prop := a = 7 ∨ a = 10
def rd_img (a b c : Nat) : Prop := a = 9 ∨ (a = 34 ∧ (b = 66 ∨ (b = 0 ∧ c = 66)))
section MV
variable {μ μ1 : m_M} {A : m_T} {t s b : Nat}
theorem R_town.rd (h : R_town μ A t s b) (e : ∀ a b c, rd_town a b c → μ1 a b c = μ a b c) : R_town μ1 A t s b := by
  refine h.mv ?_ ⟨e 1 0 2 (by unfold rd_town; omega), e 1 0 3 (by unfold rd_town; omega)⟩ (e 4 0 0 (by unfold rd_town; omega)) (fun x c hx => e 34 x c (by unfold rd_town; omega))
  funext x y
  rcases h.2.2.2.1 with ⟨z, -⟩ | ⟨z, -⟩ <;> subst z
  · exact e 32 x y (Or.inl rfl)
  · exact e 33 x y (Or.inr (Or.inl rfl))
theorem R_now.rd (h : R_lay μ A 10 0) (e : ∀ a b c, rd_now a b c → μ1 a b c = μ a b c) : R_lay μ1 A 10 0 :=
  h.mv (by funext x y; exact e 10 x y (Or.inl rfl)) (fun x y hx => e 34 x y (Or.inr ⟨rfl, by omega⟩))
theorem R_undo.rd (h : R_undo μ A) (e : ∀ a b c, rd_undo a b c → μ1 a b c = μ a b c) : R_undo μ1 A := by
  obtain ⟨c, n, f, hb, ⟨e1, e2, e3, e4⟩, hk⟩ := h
  refine ⟨c, n, f, hb, ⟨(e 6 0 2 (Or.inl rfl)).trans e1, (e 6 0 1 (Or.inl rfl)).trans e2, (e 34 0 53 (by unfold rd_undo; omega)).trans e3, (e 34 0 52 (by unfold rd_undo; omega)).trans e4⟩, fun k hkc => (hk k hkc).mv ?_ (fun x y hx => e 34 x y (Or.inr (Or.inr ⟨rfl, by omega⟩)))⟩
  funext x y
  exact e _ x y (Or.inr (Or.inl (by omega)))
theorem R_tape.rd (h : R_tape μ) (e : ∀ a b c, rd_tape a b c → μ1 a b c = μ a b c) : R_tape μ1 := by
  obtain ⟨L, hL, e1, e2, hi⟩ := h
  exact ⟨L, hL, (e 1 0 1 (by unfold rd_tape; omega)).trans e1, (e 34 0 1 (by unfold rd_tape; omega)).trans e2, fun i h => by rw [e 34 1 i (by unfold rd_tape; omega), e 1 1 i (by unfold rd_tape; omega)]; exact hi i h⟩
theorem R_misc.rd (h : R_misc μ) (e : ∀ a b c, rd_misc a b c → μ1 a b c = μ a b c) : R_misc μ1 := by
  obtain ⟨e1, e2, e3⟩ := h
  unfold R_misc
  rw [e 34 0 54 (by unfold rd_misc; omega), e 1 0 13 (by unfold rd_misc; omega), e 34 0 10 (by unfold rd_misc; omega), e 34 0 11 (by unfold rd_misc; omega), e 1 0 14 (by unfold rd_misc; omega), e 1 0 15 (by unfold rd_misc; omega)]
  exact ⟨e1, e2, fun i hi => by rw [e 34 42 i (by unfold rd_misc; omega), e 1 13 i (by unfold rd_misc; omega)]; exact e3 i hi⟩
theorem R_see.rd (h : R_see μ A) (e : ∀ a b c, rd_see a b c → μ1 a b c = μ a b c) : R_see μ1 A := by
  obtain ⟨n, hn, e1, e2, hi⟩ := h
  have s5 : ∀ c, μ1 8 5 c = μ 8 5 c := fun c => e 8 5 c (by unfold rd_see; omega)
  exact ⟨n, hn, (e 8 0 0 (by unfold rd_see; omega)).trans e1, (e 34 0 60 (by unfold rd_see; omega)).trans e2, fun i h => by rw [s5, s5, s5, e 34 62 i (by unfold rd_see; omega), e 34 63 i (by unfold rd_see; omega), e 34 64 i (by unfold rd_see; omega)]; exact hi i h⟩
theorem R_best.rd (h : R_best μ A) (e : ∀ a b c, rd_best a → μ1 a b c = μ a b c) : R_best μ1 A := by
  have o7 : μ1 7 = μ 7 := by funext x y; exact e 7 x y (Or.inl rfl)
  have o10 : μ1 10 = μ 10 := by funext x y; exact e 10 x y (Or.inr rfl)
  unfold R_best
  rw [o7, o10]; exact h
theorem R_img.rd (h : R_img μ) (e : ∀ a b c, rd_img a b c → μ1 a b c = μ a b c) : R_img μ1 := by
  obtain ⟨n, hn, e1, e2, hi⟩ := h
  exact ⟨n, hn, (e 9 0 1 (Or.inl rfl)).trans e1, (e 34 0 66 (by unfold rd_img; omega)).trans e2, fun i h => by rw [e 34 66 i (by unfold rd_img; omega), e 9 1 i (Or.inl rfl)]; exact hi i h⟩
theorem R_own.rd (h : R_own μ) (e : ∀ b c, μ1 3 b c = μ 3 b c) : R_own μ1 := fun i hi => (e 1 i).trans (h i hi)
end MV
theorem RA.refuse {μ : m_M} {A : m_T} {t s b w : Nat} (hw : w < 6) (h : RA μ A t s b) : RA (m_up (m_up μ 1 13 w (w32 (μ 1 13 w + 1))) 34 42 w (w32 (μ 34 42 w + 1))) A t s b := by
  have e : ∀ x y z, ¬ (x = 1 ∧ y = 13) → ¬ (x = 34 ∧ y = 42) → m_up (m_up μ 1 13 w (w32 (μ 1 13 w + 1))) 34 42 w (w32 (μ 34 42 w + 1)) x y z = μ x y z := fun x y z h1 h2 => by rw [m_up_ne _ _ (fun q => h2 ⟨q.1, q.2.1⟩), m_up_ne _ _ (fun q => h1 ⟨q.1, q.2.1⟩)]
  obtain ⟨r1, r2, r3, r4, r5, r6, r7, r8, r9⟩ := h
  refine ⟨r1.rd (fun x y z q => e x y z (by unfold rd_town at q; omega) (by unfold rd_town at q; omega)), R_now.rd r2 (fun x y z q => e x y z (by unfold rd_now at q; omega) (by unfold rd_now at q; omega)), r3.rd (fun x y z q => e x y z (by unfold rd_undo at q; omega) (by unfold rd_undo at q; omega)), r4.rd (fun x y z q => e x y z (by unfold rd_tape at q; omega) (by unfold rd_tape at q; omega)), ?_, r6.rd (fun x y z q => e x y z (by unfold rd_see at q; omega) (by unfold rd_see at q; omega)), r7.rd (fun x y z q => e x y z (by unfold rd_best at q; omega) (by unfold rd_best at q; omega)), r8.rd (fun x y z q => e x y z (by unfold rd_img at q; omega) (by unfold rd_img at q; omega)), R_own.rd r9 (fun y z => e 3 y z (by omega) (by omega))⟩
  obtain ⟨e1, e2, e3⟩ := r5
  refine ⟨by rw [e 34 0 54 (by omega) (by omega), e 1 0 13 (by omega) (by omega)]; exact e1, by rw [e 34 0 10 (by omega) (by omega), e 1 0 14 (by omega) (by omega), e 34 0 11 (by omega) (by omega), e 1 0 15 (by omega) (by omega)]; exact e2, fun i hi => ?_⟩
  by_cases q : i = w
  · subst q
    rw [m_up_at, m_up_ne _ _ (by omega), m_up_at, e3 i hi]
  · rw [m_up_ne _ _ (by omega), m_up_ne _ _ (by omega), m_up_ne _ _ (by omega), m_up_ne _ _ (by omega)]; exact e3 i hi
section RF
variable {G : m_G} {d : Nat} {μ : m_M} {K : Int → m_M → Prop}
theorem cl_rN {w : Nat} (hw : w < 6) (k : K (-1) (m_up μ 1 13 w (w32 (μ 1 13 w + 1)))) : c_i G (d + 1) YX11_refuseWithNone [vR 1 0, vI (w : Int)] μ K := by
  refine EX11_refuseWithNone ⟨⟨by omega, by omega⟩, ⟨by omega, by omega⟩, fun μ1 e => ?_⟩
  rw [Int.toNat_natCast] at e
  subst e; exact k
theorem cl_rF {w : Nat} (hw : w < 6) (k : K 0 (m_up μ 1 13 w (w32 (μ 1 13 w + 1)))) : c_i G (d + 1) YX11_refuseWithFalse [vR 1 0, vI (w : Int)] μ K := by
  refine EX11_refuseWithFalse ⟨⟨by omega, by omega⟩, ⟨by omega, by omega⟩, fun μ1 e => ?_⟩
  rw [Int.toNat_natCast] at e
  subst e; exact k
theorem mo_rf {w : Nat} (hw : w < 6) (k : K (-1) (m_up μ 34 42 w (w32 (μ 34 42 w + 1)))) : c_i G (d + 1) YX12_refuses [vR 34 0, vI (w : Int)] μ K := by
  refine EX12_refuses ⟨⟨by omega, by omega⟩, ⟨by omega, by omega⟩, fun μ1 e => ?_⟩
  rw [Int.toNat_natCast] at e
  subst e; exact k
/-- the model's memory behind a refusal of the class -/
theorem ref34 (w : Nat) (v : Int) : m_up μ 1 13 w v 34 = μ 34 := by funext x y; exact m_up_ne _ _ (by omega)
end RF
/-! bytes -/
theorem i_and255 (x : Int) : i_and x 255 = x % 256 := by
  have h : (Int32.ofInt x &&& Int32.ofInt 255).toBitVec.toNat = (x % 256).toNat := by
    rw [Int32.toBitVec_and, BitVec.toNat_and, show (Int32.ofInt 255).toBitVec.toNat = 2 ^ 8 - 1 from rfl, Nat.and_two_pow_sub_one_eq_mod, Int32.toBitVec_ofInt, BitVec.toNat_ofInt]
    omega
  rw [i_and_def, bv_int (by rw [h]; omega), h]
  omega
theorem i_b_eq (x : Int) : i_b x = sg (x % 256) := by
  rw [i_b_def, Int8.toInt_toInt32, Int32.toInt_toInt8, Int32.toInt_ofInt, Int.bmod_def, Int.bmod_def]
  unfold sg
  simp only [Int32.size]
  split <;> split <;> split <;> omega
theorem i_bb (x : Int) : i_b (i_b x) = sg (i_and x 255) := by
  rw [i_b_eq, i_b_eq, i_and255]
  unfold sg
  split <;> split <;> omega
theorem and255_in (x : Int) : 0 ≤ i_and x 255 ∧ i_and x 255 ≤ 255 := by rw [i_and255]; omega
section FD
variable {G : m_G} {d : Nat} {μ : m_M} {K : m_M → Prop}
/-- byte j of a word -/
noncomputable def wb (a : Int) (j : Nat) : Int := i_and (i_shr a (24 - 8 * (j : Int))) 255
theorem cl_put {L : Nat} (hL : L + 4 ≤ 1600) (e1 : μ 1 0 1 = (L : Int)) {a : Int} (k : ∀ μ1, μ1 1 0 1 = ((L + 4 : Nat) : Int) → (∀ x y z, ¬ (x = 1 ∧ (y = 1 ∧ L ≤ z ∧ z < L + 4 ∨ y = 0 ∧ z = 1)) → μ1 x y z = μ x y z) → (∀ j, j < 4 → μ1 1 1 (L + j) = sg (wb a j)) → K μ1) : c_v G (d + 1) YX11_putWord [vR 1 0, vI a] μ K := by
  refine EX11_putWord (fun X C R => ?_)
  have L1 : ∀ (r j : Nat) (μ1 : m_M), j + r = 4 → μ1 1 0 1 = ((L + j : Nat) : Int) → (∀ x y z, ¬ (x = 1 ∧ (y = 1 ∧ L ≤ z ∧ z < L + 4 ∨ y = 0 ∧ z = 1)) → μ1 x y z = μ x y z) → (∀ i, i < j → μ1 1 1 (L + i) = sg (wb a i)) → mW G X YX11_putWord μ1 3 [some (vR 1 0), some (vI a), some (vI (24 - 8 * (j : Int)))] [] := by
    intro r
    induction r with
    | zero =>
      intro j μ1 hj g1 g2 g3
      exact VX11_putWord_3 C R ⟨fun _ => k μ1 (by rw [g1, show L + j = L + 4 by omega]) g2 (fun i hi => g3 i (by omega)), fun q => absurd (by omega) q⟩
    | succ r ih =>
      intro j μ1 hj g1 g2 g3
      refine VX11_putWord_3 C R ⟨fun q => absurd q (by omega), fun _ => ?_⟩
      rw [g1, Int.toNat_natCast]
      refine ⟨fun q => absurd q (by omega), fun _ => ⟨⟨by omega, by omega⟩, fun μ2 e2 μ3 e3 x3 ex => ?_⟩⟩
      rw [w32_le (by omega) (by omega), show 24 - 8 * (j : Int) + -8 = 24 - 8 * ((j + 1 : Nat) : Int) by omega] at ex
      subst ex
      rw [i_bb] at e2
      rw [e2, m_up_ne _ _ (by omega), g1, w32_s (by omega)] at e3
      refine ih (j + 1) μ3 (by omega) (by rw [e3, m_up_at]; rfl) (fun x y z q => ?_) (fun i hi => ?_)
      · rw [e3, m_up_ne _ _ (by omega), m_up_ne _ _ (by omega)]; exact g2 x y z q
      · rw [e3, m_up_ne _ _ (by omega)]
        by_cases q : i = j
        · subst q; rw [m_up_at]; rfl
        · rw [m_up_ne _ _ (by omega)]; exact g3 i (by omega)
  exact L1 4 0 μ (by omega) e1 (fun _ _ _ _ => rfl) (fun i hi => by omega)
theorem mo_put {L : Nat} (hL : L + 4 ≤ 1600) (e1 : μ 34 0 1 = (L : Int)) {a : Int} (k : ∀ μ1, μ1 34 0 1 = ((L + 4 : Nat) : Int) → (∀ x y z, ¬ (x = 34 ∧ (y = 1 ∧ L ≤ z ∧ z < L + 4 ∨ y = 0 ∧ z = 1)) → μ1 x y z = μ x y z) → (∀ j, j < 4 → μ1 34 1 (L + j) = wb a j) → K μ1) : c_v G (d + 1) YX12_put [vR 34 0, vI a] μ K := by
  refine EX12_put (fun X C R => ?_)
  have L1 : ∀ (r j : Nat) (μ1 : m_M), j + r = 4 → μ1 34 0 1 = ((L + j : Nat) : Int) → (∀ x y z, ¬ (x = 34 ∧ (y = 1 ∧ L ≤ z ∧ z < L + 4 ∨ y = 0 ∧ z = 1)) → μ1 x y z = μ x y z) → (∀ i, i < j → μ1 34 1 (L + i) = wb a i) → mW G X YX12_put μ1 3 [some (vR 34 0), some (vI a), some (vI (24 - 8 * (j : Int)))] [] := by
    intro r
    induction r with
    | zero =>
      intro j μ1 hj g1 g2 g3
      exact VX12_put_3 C R ⟨fun _ => k μ1 (by rw [g1, show L + j = L + 4 by omega]) g2 (fun i hi => g3 i (by omega)), fun q => absurd (by omega) q⟩
    | succ r ih =>
      intro j μ1 hj g1 g2 g3
      refine VX12_put_3 C R ⟨fun q => absurd q (by omega), fun _ => ?_⟩
      rw [g1, Int.toNat_natCast]
      refine ⟨⟨by omega, by omega⟩, fun μ2 e2 μ3 e3 x3 ex => ?_⟩
      rw [w32_le (by omega) (by omega), show 24 - 8 * (j : Int) + -8 = 24 - 8 * ((j + 1 : Nat) : Int) by omega] at ex
      subst ex
      rw [e2, m_up_ne _ _ (by omega), g1, w32_s (by omega)] at e3
      refine ih (j + 1) μ3 (by omega) (by rw [e3, m_up_at]; rfl) (fun x y z q => ?_) (fun i hi => ?_)
      · rw [e3, m_up_ne _ _ (by omega), m_up_ne _ _ (by omega)]; exact g2 x y z q
      · rw [e3, m_up_ne _ _ (by omega)]
        by_cases q : i = j
        · subst q; rw [m_up_at]; rfl
        · rw [m_up_ne _ _ (by omega)]; exact g3 i (by omega)
  exact L1 4 0 μ (by omega) e1 (fun _ _ _ _ => rfl) (fun i hi => by omega)
noncomputable def fb (W : List Int) (i : Nat) : Int := wb (W.getD (i / 4) 0) (i % 4)
def FP (o : Nat) (g : Int → Int) (W : List Int) (L : Nat) (μ : m_M) (n : Nat) (μ1 : m_M) : Prop := μ1 o 0 1 = ((L + 4 * n : Nat) : Int) ∧ (∀ x y z, ¬ (x = o ∧ (y = 1 ∧ L ≤ z ∧ z < L + 4 * n ∨ y = 0 ∧ z = 1)) → μ1 x y z = μ x y z) ∧ ∀ i, i < 4 * n → μ1 o 1 (L + i) = g (fb W i)
theorem FP_step {o : Nat} {g : Int → Int} {W : List Int} {L n : Nat} {μ0 μ1 μ2 : m_M} (h : FP o g W L μ0 n μ1) (e1 : μ2 o 0 1 = ((L + 4 * n + 4 : Nat) : Int)) (e2 : ∀ x y z, ¬ (x = o ∧ (y = 1 ∧ L + 4 * n ≤ z ∧ z < L + 4 * n + 4 ∨ y = 0 ∧ z = 1)) → μ2 x y z = μ1 x y z) (e3 : ∀ j, j < 4 → μ2 o 1 (L + 4 * n + j) = g (wb (W.getD n 0) j)) : FP o g W L μ0 (n + 1) μ2 := by
  obtain ⟨h1, h2, h3⟩ := h
  refine ⟨by rw [e1, show L + 4 * n + 4 = L + 4 * (n + 1) by omega], fun x y z q => (e2 x y z (by omega)).trans (h2 x y z (by omega)), fun i hi => ?_⟩
  by_cases q : i < 4 * n
  · rw [e2 o 1 (L + i) (by omega)]; exact h3 i q
  · obtain ⟨j, rfl⟩ : ∃ j, i = 4 * n + j := ⟨i - 4 * n, by omega⟩
    have := e3 j (by omega)
    rw [show L + (4 * n + j) = L + 4 * n + j by omega, this]
    unfold fb
    rw [show (4 * n + j) / 4 = n by omega, show (4 * n + j) % 4 = j by omega]
theorem cl_fp {W : List Int} {L n : Nat} {μ0 : m_M} (hL : L + 4 * n + 4 ≤ 1600) (h : FP 1 sg W L μ0 n μ) (k : ∀ μ2, FP 1 sg W L μ0 (n + 1) μ2 → K μ2) : c_v G (d + 1) YX11_putWord [vR 1 0, vI (W.getD n 0)] μ K :=
  cl_put (L := L + 4 * n) hL h.1 (fun μ1 e1 e2 e3 => k μ1 (FP_step h e1 e2 e3))
theorem mo_fp {W : List Int} {L n : Nat} {μ0 : m_M} (hL : L + 4 * n + 4 ≤ 1600) (h : FP 34 (fun x => x) W L μ0 n μ) (k : ∀ μ2, FP 34 (fun x => x) W L μ0 (n + 1) μ2 → K μ2) : c_v G (d + 1) YX12_put [vR 34 0, vI (W.getD n 0)] μ K :=
  mo_put (L := L + 4 * n) hL h.1 (fun μ1 e1 e2 e3 => k μ1 (FP_step h e1 e2 e3))
end FD
/-- the tape alone has changed -/
theorem RA.tape {μ μ1 : m_M} {A : m_T} {t s b : Nat} (h : RA μ A t s b) (e : ∀ x y z, ¬ rd_tape x y z → μ1 x y z = μ x y z) (r4 : R_tape μ1) : RA μ1 A t s b := by
  obtain ⟨r1, r2, r3, -, r5, r6, r7, r8, r9⟩ := h
  exact ⟨r1.rd (fun x y z q => e x y z (by unfold rd_town at q; unfold rd_tape; omega)), R_now.rd r2 (fun x y z q => e x y z (by unfold rd_now at q; unfold rd_tape; omega)), r3.rd (fun x y z q => e x y z (by unfold rd_undo at q; unfold rd_tape; omega)), r4, r5.rd (fun x y z q => e x y z (by unfold rd_misc at q; unfold rd_tape; omega)), r6.rd (fun x y z q => e x y z (by unfold rd_see at q; unfold rd_tape; omega)), r7.rd (fun x y z q => e x y z (by unfold rd_best at q; unfold rd_tape; omega)), r8.rd (fun x y z q => e x y z (by unfold rd_img at q; unfold rd_tape; omega)), R_own.rd r9 (fun y z => e 3 y z (by unfold rd_tape; omega))⟩
section S5
variable {G : m_G} {a1 a2 a3 a4 a5 : Int}
theorem S_seed (hi : in32 a1) : SIM G YX11_seed YX12_seed [vI a1] := by
  intro d μ ⟨A, t, s, b, h⟩
  by_cases hy : 0 ≤ a1
  · refine EX11_seed ⟨fun _ μ1 e1 => EX12_seed ⟨fun _ μ2 e2 => ⟨rfl, A, t, s, b, ?_⟩, fun q => absurd hy q⟩, fun q => absurd hy q⟩
    have e : ∀ x y z, ¬ (x = 1 ∧ y = 0 ∧ z = 13) → ¬ (x = 34 ∧ y = 0 ∧ z = 54) → μ2 x y z = μ x y z := fun x y z h1 h2 => by rw [e2, m_up_ne _ _ h2, e1, m_up_ne _ _ h1]
    obtain ⟨r1, r2, r3, r4, r5, r6, r7, r8, r9⟩ := h
    refine ⟨r1.rd (fun x y z q => e x y z (by unfold rd_town at q; omega) (by unfold rd_town at q; omega)), R_now.rd r2 (fun x y z q => e x y z (by unfold rd_now at q; omega) (by unfold rd_now at q; omega)), r3.rd (fun x y z q => e x y z (by unfold rd_undo at q; omega) (by unfold rd_undo at q; omega)), r4.rd (fun x y z q => e x y z (by unfold rd_tape at q; omega) (by unfold rd_tape at q; omega)), ?_, r6.rd (fun x y z q => e x y z (by unfold rd_see at q; omega) (by unfold rd_see at q; omega)), r7.rd (fun x y z q => e x y z (by unfold rd_best at q; omega) (by unfold rd_best at q; omega)), r8.rd (fun x y z q => e x y z (by unfold rd_img at q; omega) (by unfold rd_img at q; omega)), R_own.rd r9 (fun y z => e 3 y z (by omega) (by omega))⟩
    obtain ⟨-, k2, k3⟩ := r5
    have v1 : μ2 1 0 13 = a1 := by rw [e2, m_up_ne _ _ (by omega), e1, m_up_at]
    refine ⟨⟨by rw [v1, e2, m_up_at], by rw [v1]; exact ⟨hy, hi.2⟩⟩, by rw [e 34 0 10 (by omega) (by omega), e 1 0 14 (by omega) (by omega), e 34 0 11 (by omega) (by omega), e 1 0 15 (by omega) (by omega)]; exact k2, fun i hi => by rw [e 34 42 i (by omega) (by omega), e 1 13 i (by omega) (by omega)]; exact k3 i hi⟩
  · refine EX11_seed ⟨fun q => absurd q hy, fun _ => cl_rF (w := 5) (by decide) ⟨Or.inl rfl, EX12_seed ⟨fun q => absurd q hy, fun _ => mo_rf (w := 5) (by decide) ⟨fun _ => ⟨rfl, A, t, s, b, ?_⟩, fun q => absurd (by decide) q⟩⟩⟩⟩
    rw [ref34]
    exact h.refuse (by decide)
theorem S_end : SIM G YX11_end YX12_end [vI a1] := by
  intro d μ ⟨A, t, s, b, h⟩
  obtain ⟨L, hL, e1, e2, hi⟩ := h.2.2.2.1
  have hrf : ∀ {c : Prop}, c → RR (m_up (m_up μ 1 13 0 (w32 (μ 1 13 0 + 1))) 34 42 0 (w32 (m_up μ 1 13 0 (w32 (μ 1 13 0 + 1)) 34 42 0 + 1))) := fun _ => by
    rw [ref34]
    exact ⟨A, t, s, b, h.refuse (by decide)⟩
  have v1 : m_up μ 1 13 0 (w32 (μ 1 13 0 + 1)) 34 0 1 = (L : Int) := by rw [ref34]; exact e2
  by_cases hy : 0 ≤ a1 ∧ a1 ≤ (L : Int)
  · refine EX11_end ⟨fun q => absurd q (by omega), fun _ => ⟨fun _ μ1 k1 => EX12_end ⟨fun q => absurd q (by omega), fun _ => ⟨fun _ μ2 k2 => ⟨rfl, A, t, s, b, ?_⟩, fun q => ?_⟩⟩, fun q => absurd q (by omega)⟩⟩
    · have e : ∀ x y z, ¬ (x = 1 ∧ y = 0 ∧ z = 1) → ¬ (x = 34 ∧ y = 0 ∧ z = 1) → μ2 x y z = μ x y z := fun x y z h1 h2 => by rw [k2, m_up_ne _ _ h2, k1, m_up_ne _ _ h1]
      refine h.tape (fun x y z q => e x y z (by unfold rd_tape at q; omega) (by unfold rd_tape at q; omega)) ⟨a1.toNat, by omega, ?_, ?_, fun i hi2 => ?_⟩
      · rw [k2, m_up_ne _ _ (by omega), k1, m_up_at]; omega
      · rw [k2, m_up_at]; omega
      · rw [e 34 1 i (by omega) (by omega), e 1 1 i (by omega) (by omega)]; exact hi i (by omega)
    · rw [k1, m_up_ne _ _ (by omega)] at q; omega
  · have fin : ∀ μ1, μ1 = m_up μ 1 13 0 (w32 (μ 1 13 0 + 1)) → c_i G (d + 100) YX12_end [vR 34 0, vI a1] μ1 (fun r2 μ2 => r2 = 0 ∧ RR μ2) := fun μ1 k1 => by
      subst k1
      refine EX12_end ⟨fun _ => mo_rf (w := 0) (by decide) ⟨fun _ => ⟨rfl, hrf trivial⟩, fun q => absurd (by decide) q⟩, fun _ => ⟨fun q => ?_, fun _ => mo_rf (w := 0) (by decide) ⟨fun _ => ⟨rfl, hrf trivial⟩, fun q => absurd (by decide) q⟩⟩⟩
      rw [v1] at q; omega
    exact EX11_end ⟨fun _ => cl_rF (w := 0) (by decide) ⟨Or.inl rfl, fin _ rfl⟩, fun _ => ⟨fun q => absurd q (by omega), fun _ => cl_rF (w := 0) (by decide) ⟨Or.inl rfl, fin _ rfl⟩⟩⟩
theorem S_feed : SIM G YX11_feed YX12_feed [vI a1, vI a2, vI a3, vI a4, vI a5] := by
  intro d μ ⟨A, t, s, b, h⟩
  obtain ⟨L, hL, e1, e2, hi⟩ := h.2.2.2.1
  have ew : w32 ((L : Int) + 20) = (L : Int) + 20 := w32_le (by omega) (by omega)
  by_cases hy : L + 20 ≤ 1600
  · refine EX11_feed ⟨fun _ => ?_, fun q => absurd (by rw [e1, ew]; omega) q⟩
    have p0 : FP 1 sg [a1, a2, a3, a4, a5] L μ 0 μ := ⟨e1, fun _ _ _ _ => rfl, fun i hi => absurd hi (by omega)⟩
    refine cl_fp (by omega) p0 (fun μ1 p1 => cl_fp (by omega) p1 (fun μ2 p2 => cl_fp (by omega) p2 (fun μ3 p3 => cl_fp (by omega) p3 (fun μ4 p4 => cl_fp (by omega) p4 (fun μ5 p5 => ?_)))))
    clear p0 p1 p2 p3 p4
    obtain ⟨p5, f5, r5⟩ := p5
    have v5 : μ5 34 0 1 = (L : Int) := (f5 34 0 1 (by omega)).trans e2
    refine EX12_feed ⟨fun _ => ?_, fun q => absurd (by rw [v5, ew]; omega) q⟩
    have q0 : FP 34 (fun x => x) [a1, a2, a3, a4, a5] L μ5 0 μ5 := ⟨v5, fun _ _ _ _ => rfl, fun i hi => absurd hi (by omega)⟩
    refine mo_fp (by omega) q0 (fun ν1 q1 => mo_fp (by omega) q1 (fun ν2 q2 => mo_fp (by omega) q2 (fun ν3 q3 => mo_fp (by omega) q3 (fun ν4 q4 => mo_fp (by omega) q4 (fun ν5 q5 => ?_)))))
    clear q0 q1 q2 q3 q4
    obtain ⟨s5, g5, u5⟩ := q5
    refine ⟨by rw [s5, p5], A, t, s, b, h.tape (fun x y z q => by unfold rd_tape at q; rw [g5 x y z (by omega), f5 x y z (by omega)]) ⟨L + 20, hy, ?_, s5, fun i hi2 => ?_⟩⟩
    · rw [g5 1 0 1 (by omega)]; exact p5
    · by_cases c0 : i < L
      · rw [g5 34 1 i (by omega), f5 34 1 i (by omega), g5 1 1 i (by omega), f5 1 1 i (by omega)]
        exact hi i c0
      · obtain ⟨w, rfl⟩ : ∃ w, i = L + w := ⟨i - L, by omega⟩
        rw [u5 w (by omega), g5 1 1 _ (by omega), r5 w (by omega)]
        exact ⟨and255_in _, rfl⟩
  · refine EX11_feed ⟨fun q => absurd q (by rw [e1, ew]; omega), fun _ => cl_rN (w := 0) (by decide) (EX12_feed ⟨fun q => absurd q ?_, fun _ => mo_rf (w := 0) (by decide) ⟨rfl, A, t, s, b, ?_⟩⟩)⟩
    · rw [ref34, e2, ew]; omega
    · rw [ref34]; exact h.refuse (by decide)
end S5
