/-! ===== a firing, place by place: where it stands ahead of place p ===== -/
def sRing (A : m_T) (B : Nat → Nat → Int) (heat : Int) (c : Nat) : Int := p_ring A c heat (B 4 c) (B 0 0)
def sCrk (A : m_T) (B : Nat → Nat → Int) (heat : Int) (c : Nat) : Int := if p_crk A c heat (B 4 c) (B 0 0) then 1 else 0
/-- whether two next to one another stick in this firing -/
def sStk (A : m_T) (B : Nat → Nat → Int) (heat : Int) (l r : Int) : Bool := l != -1 && r != -1 && p_stk A l.toNat r.toNat (p_abs (sRing A B heat l.toNat - sRing A B heat r.toNat)) heat (B 0 0)
noncomputable def s7 (A : m_T) (B : Nat → Nat → Int) (kn : Nat) (heat : Int) (p : Int) (c : Nat) : Int :=
  if B 4 c + 1 < p ∧ sStk A B heat c (b_who B kn (B 4 c + 1)) = true then i_or (if B 4 c < p ∧ sStk A B heat (b_who B kn (B 4 c - 1)) c = true then i_or (B 7 c) (i_shl 1 (b_who B kn (B 4 c - 1))) else B 7 c) (i_shl 1 (b_who B kn (B 4 c + 1)))
  else (if B 4 c < p ∧ sStk A B heat (b_who B kn (B 4 c - 1)) c = true then i_or (B 7 c) (i_shl 1 (b_who B kn (B 4 c - 1))) else B 7 c)
noncomputable def sS (A : m_T) (B : Nat → Nat → Int) (kn : Nat) (heat : Int) (p : Int) : Nat → Nat → Int := fun k i =>
  if i < 8 ∧ B 3 i = (kn : Int) then
    (if k = 3 ∨ k = 4 then (if B 4 i < p then -1 else B k i)
    else if k = 5 then (if B 4 i < p then sRing A B heat i else B 5 i)
    else if k = 6 then (if B 4 i < p then sCrk A B heat i else B 6 i)
    else if k = 7 then s7 A B kn heat p i
    else B k i)
  else B k i
/-- at most one in a place -/
def uniq (B : Nat → Nat → Int) (kn : Nat) : Prop := ∀ c e, c < 8 → e < 8 → B 3 c = (kn : Int) → B 3 e = (kn : Int) → B 4 c = B 4 e → c = e
theorem who_of {B : Nat → Nat → Int} {kn : Nat} (hu : uniq B kn) {c : Nat} (hc : c < 8) (h3 : B 3 c = (kn : Int)) {p : Int} (h4 : B 4 c = p) : b_who B kn p = (c : Int) := by
  rcases b_who_spec B kn p with ⟨-, q2⟩ | ⟨e, q1, q2, q3, q4, -⟩
  · exact absurd ⟨h3, h4⟩ (q2 c hc)
  · rw [q1, hu e c q2 hc q3 h3 (q4.trans h4.symm)]
theorem who_m {B : Nat → Nat → Int} {kn : Nat} {p : Int} (h : ∀ c, c < 8 → ¬ (B 3 c = (kn : Int) ∧ B 4 c = p)) : b_who B kn p = -1 := by
  rcases b_who_spec B kn p with ⟨q1, -⟩ | ⟨e, q1, q2, q3, q4, -⟩
  · exact q1
  · exact absurd ⟨q3, q4⟩ (h e q2)
theorem sS_in {A : m_T} {B : Nat → Nat → Int} {kn : Nat} {heat p : Int} {i : Nat} (h : i < 8 ∧ B 3 i = (kn : Int)) (k : Nat) : sS A B kn heat p k i = (if k = 3 ∨ k = 4 then (if B 4 i < p then -1 else B k i) else if k = 5 then (if B 4 i < p then sRing A B heat i else B 5 i) else if k = 6 then (if B 4 i < p then sCrk A B heat i else B 6 i) else if k = 7 then s7 A B kn heat p i else B k i) := if_pos h
theorem sS_out {A : m_T} {B : Nat → Nat → Int} {kn : Nat} {heat p : Int} {i : Nat} (h : ¬ (i < 8 ∧ B 3 i = (kn : Int))) (k : Nat) : sS A B kn heat p k i = B k i := if_neg h
theorem sS_k {A : m_T} {B : Nat → Nat → Int} {kn : Nat} {heat p : Int} {k : Nat} (h : k < 3 ∨ 7 < k) (i : Nat) : sS A B kn heat p k i = B k i := by
  unfold sS
  split
  · rw [if_neg (by omega), if_neg (by omega), if_neg (by omega), if_neg (by omega)]
  · rfl
theorem sS_3 {A : m_T} {B : Nat → Nat → Int} {kn : Nat} {heat p : Int} {c : Nat} (hc : c < 8) : (sS A B kn heat p 3 c = (kn : Int) ∧ sS A B kn heat p 4 c = p) ↔ (B 3 c = (kn : Int) ∧ B 4 c = p) := by
  by_cases h : c < 8 ∧ B 3 c = (kn : Int)
  · rw [sS_in h, sS_in h, if_pos (Or.inl rfl), if_pos (Or.inr rfl)]
    by_cases q : B 4 c < p
    · rw [if_pos q, if_pos q]
      exact ⟨fun z => by omega, fun z => by omega⟩
    · rw [if_neg q, if_neg q]
  · rw [sS_out h, sS_out h]
theorem sS_who {A : m_T} {B : Nat → Nat → Int} {kn : Nat} {heat p : Int} (hu : uniq B kn) : b_who (sS A B kn heat p) kn p = b_who B kn p := by
  rcases b_who_spec B kn p with ⟨q1, q2⟩ | ⟨e, q1, q2, q3, q4, -⟩
  · rw [q1]; exact who_m (fun c hc z => q2 c hc ((sS_3 hc).mp z))
  · rw [q1]
    rcases b_who_spec (sS A B kn heat p) kn p with ⟨r1, r2⟩ | ⟨e', r1, r2, r3, r4, -⟩
    · exact absurd ((sS_3 q2).mpr ⟨q3, q4⟩) (r2 e q2)
    · have := (sS_3 r2).mp ⟨r3, r4⟩
      rw [r1, hu e' e r2 q2 this.1 q3 (this.2.trans q4.symm)]
/-- a place without anybody -/
theorem sS_none {A : m_T} {B : Nat → Nat → Int} {kn : Nat} {heat p : Int} (h : b_who B kn p = -1) : sS A B kn heat (p + 1) = sS A B kn heat p := by
  have hn : ∀ c, c < 8 → ¬ (B 3 c = (kn : Int) ∧ B 4 c = p) := by
    rcases b_who_spec B kn p with ⟨-, q2⟩ | ⟨e, q1, -⟩
    · exact q2
    · omega
  funext k i
  by_cases hi : i < 8 ∧ B 3 i = (kn : Int)
  · have hq : ¬ B 4 i = p := fun z => hn i hi.1 ⟨hi.2, z⟩
    rw [sS_in hi, sS_in hi]
    have e1 : (B 4 i < p + 1) ↔ (B 4 i < p) := by omega
    have e7 : s7 A B kn heat (p + 1) i = s7 A B kn heat p i := by
      unfold s7
      simp only [e1]
      by_cases hr : B 4 i + 1 = p
      · have hb : sStk A B heat (i : Int) (b_who B kn (B 4 i + 1)) = false := by
          rw [hr, h]; simp [sStk]
        rw [hb]
        simp
      · have e2 : (B 4 i + 1 < p + 1) ↔ (B 4 i + 1 < p) := by omega
        simp only [e2]
    simp only [e1, e7]
  · rw [sS_out hi, sS_out hi]
/-- a place with somebody -/
theorem sS_some {A : m_T} {B : Nat → Nat → Int} {kn : Nat} {heat p : Int} (hu : uniq B kn) {c : Nat} (hc : c < 8) (h3 : B 3 c = (kn : Int)) (h4 : B 4 c = p) :
    sS A B kn heat (p + 1) = (if b_who B kn (p - 1) = -1 then p_one A (sS A B kn heat p) c heat else p_due A (p_one A (sS A B kn heat p) c heat) (b_who B kn (p - 1)).toNat c heat) := by
  have hin : c < 8 ∧ B 3 c = (kn : Int) := ⟨hc, h3⟩
  have w0 : sS A B kn heat p 0 0 = B 0 0 := sS_k (Or.inl (by decide)) 0
  have w4 : sS A B kn heat p 4 c = p := by rw [sS_in hin, if_pos (Or.inr rfl), if_neg (by omega)]; exact h4
  have o5 : p_one A (sS A B kn heat p) c heat 5 c = sRing A B heat c := by rw [p_one_5, w0, w4]; unfold sRing; rw [h4]
  have o6 : p_one A (sS A B kn heat p) c heat 6 c = sCrk A B heat c := by rw [p_one_6, w0, w4]; unfold sCrk; rw [h4]
  have o3 : p_one A (sS A B kn heat p) c heat 3 c = -1 := p_one_3 _ _ _ _
  have o4 : p_one A (sS A B kn heat p) c heat 4 c = -1 := by unfold p_one; rw [bu_at]
  have ok : ∀ k, k ≠ 3 → k ≠ 4 → k ≠ 5 → k ≠ 6 → p_one A (sS A B kn heat p) c heat k c = sS A B kn heat p k c := fun k a1 a2 a3 a4 => by
    unfold p_one
    rw [bu_ne _ _ (fun z => a2 z.1), bu_ne _ _ (fun z => a1 z.1), bu_ne _ _ (fun z => a4 z.1), bu_ne _ _ (fun z => a3 z.1)]
  have hwc : b_who B kn (B 4 c) = (c : Int) := who_of hu hc h3 rfl
  -- who of the others changes
  have oth : ∀ i, i < 8 → B 3 i = (kn : Int) → i ≠ c → (B 4 i < p + 1 ↔ B 4 i < p) := fun i hi h3i hne => by
    have : B 4 i ≠ p := fun z => hne (hu i c hi hc h3i h3 (z.trans h4.symm))
    omega
  -- all but the stuck ones
  have rest : ∀ (F : Nat → Nat → Int), (∀ k i, k ≠ 7 → F k i = p_one A (sS A B kn heat p) c heat k i) → ∀ k i, k ≠ 7 → sS A B kn heat (p + 1) k i = F k i := by
    intro F hF k i hk
    rw [hF k i hk]
    by_cases e : i = c
    · subst e
      rw [sS_in hin]
      have q : B 4 i < p + 1 := by omega
      by_cases k3 : k = 3
      · subst k3; rw [o3, if_pos (Or.inl rfl), if_pos q]
      by_cases k4 : k = 4
      · subst k4; rw [o4, if_pos (Or.inr rfl), if_pos q]
      rw [if_neg (by omega)]
      by_cases k5 : k = 5
      · subst k5; rw [o5, if_pos rfl, if_pos q]
      rw [if_neg k5]
      by_cases k6 : k = 6
      · subst k6; rw [o6, if_pos rfl, if_pos q]
      rw [if_neg k6, if_neg hk, ok k k3 k4 k5 k6, sS_in hin, if_neg (by omega), if_neg k5, if_neg k6, if_neg hk]
    · rw [p_one_o A _ heat k e]
      by_cases hi : i < 8 ∧ B 3 i = (kn : Int)
      · rw [sS_in hi, sS_in hi]
        have := oth i hi.1 hi.2 e
        simp only [this, if_neg hk]
      · rw [sS_out hi, sS_out hi]
  -- the stuck ones
  have seven : ∀ i, i < 8 → B 3 i = (kn : Int) → i ≠ c → ¬ B 4 i + 1 = p → s7 A B kn heat (p + 1) i = s7 A B kn heat p i := fun i hi h3i hne hr => by
    have e1 := oth i hi h3i hne
    have e2 : (B 4 i + 1 < p + 1) ↔ (B 4 i + 1 < p) := by omega
    unfold s7
    simp only [e1, e2]
  have c7 : s7 A B kn heat p c = B 7 c := by
    unfold s7
    rw [if_neg (by omega), if_neg (by omega)]
  have c7' : s7 A B kn heat (p + 1) c = if sStk A B heat (b_who B kn (p - 1)) c = true then i_or (B 7 c) (i_shl 1 (b_who B kn (p - 1))) else B 7 c := by
    unfold s7
    rw [if_neg (by omega), h4]
    by_cases q : sStk A B heat (b_who B kn (p - 1)) c = true
    · rw [if_pos ⟨by omega, q⟩, if_pos q]
    · rw [if_neg (fun z => q z.2), if_neg q]
  funext k i
  rcases b_who_spec B kn (p - 1) with ⟨q1, q2⟩ | ⟨l, q1, q2, q3, q4, -⟩
  · rw [if_pos q1]
    by_cases hk : k = 7
    · subst hk
      by_cases hi : i < 8 ∧ B 3 i = (kn : Int)
      · by_cases e : i = c
        · subst e
          rw [ok 7 (by decide) (by decide) (by decide) (by decide), sS_in hin, sS_in hin]
          show s7 A B kn heat (p + 1) i = s7 A B kn heat p i
          rw [c7, c7', q1, if_neg (by simp [sStk])]
        · rw [p_one_o A _ heat 7 e, sS_in hi, sS_in hi]
          exact seven i hi.1 hi.2 e (fun z => q2 i hi.1 ⟨hi.2, by omega⟩)
      · rw [p_one_o A _ heat 7 (show i ≠ c from fun z => hi (by rw [z]; exact hin)), sS_out hi, sS_out hi]
    · exact rest _ (fun _ _ _ => rfl) k i hk
  · rw [if_neg (by omega), q1, Int.toNat_natCast]
    have hlin : l < 8 ∧ B 3 l = (kn : Int) := ⟨q2, q3⟩
    have hlc : l ≠ c := fun z => by rw [z] at q4; omega
    have ol5 : p_one A (sS A B kn heat p) c heat 5 l = sRing A B heat l := by
      rw [p_one_o A _ heat 5 hlc, sS_in hlin, if_neg (by decide), if_pos rfl, if_pos (by omega)]
    have hst : sStk A B heat l c = p_stk A l c (p_abs (sRing A B heat l - sRing A B heat c)) heat (B 0 0) := by
      unfold sStk
      rw [Int.toNat_natCast, Int.toNat_natCast]
      have e1 : ((l : Int) != -1) = true := by simp
      have e2 : ((c : Int) != -1) = true := by simp
      rw [e1, e2]
      rfl
    have hdue : p_due A (p_one A (sS A B kn heat p) c heat) l c heat = if sStk A B heat l c = true then p_stick (p_one A (sS A B kn heat p) c heat) l c else p_one A (sS A B kn heat p) c heat := by
      unfold p_due
      rw [ol5, o5, p_one_0, w0, hst]
    by_cases hk : k = 7
    · subst hk
      have hr : b_who B kn (B 4 l + 1) = (c : Int) := who_of hu hc h3 (by omega)
      have l7 : s7 A B kn heat (p + 1) l = if sStk A B heat l c = true then i_or (s7 A B kn heat p l) (i_shl 1 (c : Int)) else s7 A B kn heat p l := by
        have e3 : s7 A B kn heat p l = (if B 4 l < p ∧ sStk A B heat (b_who B kn (B 4 l - 1)) l = true then i_or (B 7 l) (i_shl 1 (b_who B kn (B 4 l - 1))) else B 7 l) := by
          unfold s7
          rw [if_neg (by omega)]
        have e4 : (B 4 l < p + 1) ↔ (B 4 l < p) := by omega
        rw [e3]
        unfold s7
        simp only [e4, hr]
        by_cases q : sStk A B heat l c = true
        · rw [if_pos ⟨by omega, q⟩, if_pos q]
        · rw [if_neg (fun z => q z.2), if_neg q]
      rw [hdue]
      by_cases q : sStk A B heat l c = true
      · rw [if_pos q]
        rw [if_pos q] at l7
        rw [q1, if_pos q] at c7'
        unfold p_stick
        have p7l : p_one A (sS A B kn heat p) c heat 7 l = s7 A B kn heat p l := by rw [p_one_o A _ heat 7 hlc, sS_in hlin]; rfl
        have p7c : p_one A (sS A B kn heat p) c heat 7 c = B 7 c := by
          rw [ok 7 (by decide) (by decide) (by decide) (by decide), sS_in hin]
          exact c7
        by_cases e : i = c
        · subst e
          rw [bu_at, bu_ne _ _ (fun z => hlc z.2.symm), p7c, sS_in hin]
          exact c7'
        · rw [bu_ne _ _ (fun z => e z.2)]
          by_cases e2 : i = l
          · subst e2
            rw [bu_at, p7l, sS_in hlin]
            exact l7
          · rw [bu_ne _ _ (fun z => e2 z.2), p_one_o A _ heat 7 e]
            by_cases hi : i < 8 ∧ B 3 i = (kn : Int)
            · rw [sS_in hi, sS_in hi]
              exact seven i hi.1 hi.2 e (fun z => e2 (hu i l hi.1 q2 hi.2 q3 (by omega)))
            · rw [sS_out hi, sS_out hi]
      · rw [if_neg q]
        rw [if_neg q] at l7
        rw [q1, if_neg q] at c7'
        by_cases hi : i < 8 ∧ B 3 i = (kn : Int)
        · by_cases e : i = c
          · subst e
            rw [ok 7 (by decide) (by decide) (by decide) (by decide), sS_in hin, sS_in hin]
            show s7 A B kn heat (p + 1) i = s7 A B kn heat p i
            rw [c7, c7']
          · rw [p_one_o A _ heat 7 e, sS_in hi, sS_in hi]
            by_cases e2 : i = l
            · subst e2; exact l7
            · exact seven i hi.1 hi.2 e (fun z => e2 (hu i l hi.1 q2 hi.2 q3 (by omega)))
        · rw [p_one_o A _ heat 7 (show i ≠ c from fun z => hi (by rw [z]; exact hin)), sS_out hi, sS_out hi]
    · refine rest _ (fun k i hk => ?_) k i hk
      exact p_due_o A _ _ _ _ hk i
