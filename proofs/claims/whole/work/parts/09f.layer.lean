/-! ===== a layer of the reference as a bench ===== -/
def mB (M : Nat → Nat → Int) (v : Nat) : Nat → Nat → Int := fun k i =>
  if k = 0 then (if i = 0 then M 43 v else if i = 1 then M 44 v else if i = 9 then M 51 v else 0)
  else if k = 3 then M 45 (8 * v + i) else if k = 4 then M 46 (8 * v + i) else if k = 5 then M 47 (8 * v + i)
  else if k = 6 then (if tb (M 49 v) i then 1 else 0) else if k = 7 then M 48 (8 * v + i)
  else if k = 8 then M 50 (3 * v + i) else if k = 9 then M 52 (160 * v + i) else 0
section MBL
variable (M : Nat → Nat → Int) (v i : Nat)
theorem mB00 : mB M v 0 0 = M 43 v := rfl
theorem mB01 : mB M v 0 1 = M 44 v := rfl
theorem mB09 : mB M v 0 9 = M 51 v := rfl
theorem mB3 : mB M v 3 i = M 45 (8 * v + i) := rfl
theorem mB4 : mB M v 4 i = M 46 (8 * v + i) := rfl
theorem mB5 : mB M v 5 i = M 47 (8 * v + i) := rfl
theorem mB6 : mB M v 6 i = if tb (M 49 v) i then 1 else 0 := rfl
theorem mB7 : mB M v 7 i = M 48 (8 * v + i) := rfl
theorem mB8 : mB M v 8 i = M 50 (3 * v + i) := rfl
theorem mB9 : mB M v 9 i = M 52 (160 * v + i) := rfl
end MBL
/-- two benches that show the same -/
def beq (B B' : Nat → Nat → Int) : Prop := (B 0 0 = B' 0 0 ∧ B 0 1 = B' 0 1 ∧ B 0 9 = B' 0 9) ∧ (∀ i, i < 8 → B 3 i = B' 3 i ∧ B 4 i = B' 4 i ∧ B 5 i = B' 5 i ∧ B 6 i = B' 6 i ∧ B 7 i = B' 7 i) ∧ (∀ k, k < 3 → B 8 k = B' 8 k) ∧ ∀ i : Nat, (i : Int) < 4 * B 0 9 → B 9 i = B' 9 i
theorem beq.rf (B : Nat → Nat → Int) : beq B B := ⟨⟨rfl, rfl, rfl⟩, fun _ _ => ⟨rfl, rfl, rfl, rfl, rfl⟩, fun _ _ => rfl, fun _ _ => rfl⟩
theorem beq.sy {B B' : Nat → Nat → Int} (h : beq B B') : beq B' B := ⟨⟨h.1.1.symm, h.1.2.1.symm, h.1.2.2.symm⟩, fun i hi => by obtain ⟨a, b, c, d, e⟩ := h.2.1 i hi; exact ⟨a.symm, b.symm, c.symm, d.symm, e.symm⟩, fun k hk => (h.2.2.1 k hk).symm, fun i hi => (h.2.2.2 i (by rw [h.1.2.2]; exact hi)).symm⟩
theorem beq.tr {B B' B'' : Nat → Nat → Int} (h : beq B B') (h2 : beq B' B'') : beq B B'' := ⟨⟨h.1.1.trans h2.1.1, h.1.2.1.trans h2.1.2.1, h.1.2.2.trans h2.1.2.2⟩, fun i hi => by obtain ⟨a, b, c, d, e⟩ := h.2.1 i hi; obtain ⟨a', b', c', d', e'⟩ := h2.2.1 i hi; exact ⟨a.trans a', b.trans b', c.trans c', d.trans d', e.trans e'⟩, fun k hk => (h.2.2.1 k hk).trans (h2.2.2.1 k hk), fun i hi => (h.2.2.2 i hi).trans (h2.2.2.2 i (by rw [← h.1.2.2]; exact hi))⟩
theorem beq.who {B B' : Nat → Nat → Int} (h : beq B B') (k p : Int) : b_who B' k p = b_who B k p := b_who_congr (fun i hi => (h.2.1 i hi).1.symm) (fun i hi => (h.2.1 i hi).2.1.symm) k p
theorem beq.cnt {B B' : Nat → Nat → Int} (h : beq B B') (k : Int) : b_cnt B' k = b_cnt B k := m_cnt_congr 8 0 (fun j _ hj => by rw [(h.2.1 j (by omega)).1])
theorem beq.ring {B B' : Nat → Nat → Int} (h : beq B B') (A : m_T) (heat : Int) {c : Nat} (hc : c < 8) : sRing A B' heat c = sRing A B heat c := by unfold sRing; rw [(h.2.1 c hc).2.1, h.1.1]
theorem beq.crk {B B' : Nat → Nat → Int} (h : beq B B') (A : m_T) (heat : Int) {c : Nat} (hc : c < 8) : sCrk A B' heat c = sCrk A B heat c := by unfold sCrk; rw [(h.2.1 c hc).2.1, h.1.1]
theorem beq.stk {B B' : Nat → Nat → Int} (h : beq B B') (A : m_T) (heat : Int) {l r : Int} (hl : -1 ≤ l ∧ l < 8) (hr : -1 ≤ r ∧ r < 8) : sStk A B' heat l r = sStk A B heat l r := by
  unfold sStk
  by_cases e1 : l = -1
  · rw [e1]; simp
  by_cases e2 : r = -1
  · rw [e2]; simp
  rw [h.ring A heat (c := l.toNat) (by omega), h.ring A heat (c := r.toNat) (by omega), h.1.1]
theorem beq.sev {B B' : Nat → Nat → Int} (h : beq B B') (A : m_T) (kn : Nat) (heat p : Int) {c : Nat} (hc : c < 8) : s7 A B' kn heat p c = s7 A B kn heat p c := by
  unfold s7
  rw [← (h.2.1 c hc).2.1, h.who, h.who, h.stk A heat ⟨by omega, by omega⟩ (who_in B kn _), h.stk A heat (who_in B kn _) ⟨by omega, by omega⟩, ← (h.2.1 c hc).2.2.2.2]
theorem beq.cnts {B B' : Nat → Nat → Int} (h : beq B B') (A : m_T) (kn : Nat) (heat : Int) : ∀ r p, sCnt A B' kn heat r p = sCnt A B kn heat r p := by
  intro r
  induction r with
  | zero => intro p; rfl
  | succ r ih =>
    intro p
    unfold sCnt
    rw [h.who, ih]
    rcases b_who_spec B kn p with ⟨q1, -⟩ | ⟨c, q1, q2, -⟩
    · rw [q1]; rfl
    · rw [q1, Int.toNat_natCast, h.crk A heat q2]
theorem beq.BI {A : m_T} {B B' : Nat → Nat → Int} (h : beq B B') (hB : BI A B) : BI A B' := by
  obtain ⟨a1, a2, a3, a4, a5, a6⟩ := hB
  obtain ⟨⟨h0, h1, h9⟩, hc, h8, -⟩ := h
  refine ⟨by rw [← h0]; exact a1, by rw [← h1]; exact a2, ?_, fun k hk => by rw [← h8 k hk]; exact a4 k hk, fun c hc8 => ?_, fun c e c8 e8 => ?_⟩
  · rw [← h9, m_cnt_congr (p := fun c => B' 5 c != -1) (q := fun c => B 5 c != -1) 8 0 (fun j _ hj => by rw [(hc j (by omega)).2.2.1])]
    exact a3
  · obtain ⟨e3, e4, e5, e6, e7⟩ := hc c hc8
    unfold BC
    rw [← e3, ← e4, ← e5, ← e6, ← e7]
    exact a5 c hc8
  · rw [← (hc c c8).1, ← (hc c c8).2.1, ← (hc e e8).1, ← (hc e e8).2.1]
    exact a6 c e c8 e8
theorem p_burn_beq {A : m_T} {B B' : Nat → Nat → Int} (h : beq B B') {kn : Nat} (hk : kn < 3) : p_burn A B' kn = p_burn A B kn := by
  unfold p_burn
  rw [← h.2.2.1 kn hk, ← h.1.1, h.cnt]
theorem p_goes_beq {A : m_T} {B B' : Nat → Nat → Int} (h : beq B B') {kn : Nat} (hk : kn < 3) : p_goes A B' kn = p_goes A B kn := by
  unfold p_goes
  rw [p_burn_beq h hk, ← h.2.2.1 kn hk, h.cnt, ← h.1.2.1]
theorem p_fire_beq {A : m_T} {B B' : Nat → Nat → Int} (h : beq B B') (hB : BI A B) {kn : Nat} (hk : kn < 3) (heat : Int) : beq (p_fire A B kn heat) (p_fire A B' kn heat) := by
  have hB' := h.BI hB
  refine ⟨⟨?_, ?_, ?_⟩, fun c hc => ?_, fun k hk' => ?_, fun i hi => ?_⟩
  · rw [p_fire_00, p_fire_00]; exact h.1.1
  · rw [p_fire_01, p_fire_01, p_burn_beq h hk, h.1.2.1]
  · rw [p_fire_09, p_fire_09, h.1.2.2]
  · obtain ⟨e3, e4, e5, e6, e7⟩ := h.2.1 c hc
    by_cases q : B 3 c = (kn : Int)
    · obtain ⟨f3, f4, f5, f6, f7⟩ := p_fire_in (heat := heat) hB hc q
      obtain ⟨g3, g4, g5, g6, g7⟩ := p_fire_in (heat := heat) hB' hc (by rw [← e3]; exact q)
      rw [f3, f4, f5, f6, f7, g3, g4, g5, g6, g7, h.ring A heat hc, h.crk A heat hc, h.sev A kn heat _ hc]
      exact ⟨rfl, rfl, rfl, rfl, rfl⟩
    · have q' : ¬ B' 3 c = (kn : Int) := by rw [← e3]; exact q
      rw [p_fire_out (fun z => q z.2) (by omega), p_fire_out (fun z => q z.2) (by omega), p_fire_out (fun z => q z.2) (by omega), p_fire_out (fun z => q z.2) (by omega), p_fire_out (fun z => q z.2) (by omega), p_fire_out (fun z => q' z.2) (by omega), p_fire_out (fun z => q' z.2) (by omega), p_fire_out (fun z => q' z.2) (by omega), p_fire_out (fun z => q' z.2) (by omega), p_fire_out (fun z => q' z.2) (by omega)]
      exact ⟨e3, e4, e5, e6, e7⟩
  · rw [p_fire_8, p_fire_8, h.2.2.1 k hk']
  · rw [p_fire_09] at hi
    rw [p_fire_9, p_fire_9, h.cnts, ← h.1.2.2, ← h.1.1]
    have h0 := hB.2.2.1.1
    by_cases q3 : i = 4 * (B 0 9).toNat + 3
    · rw [if_pos q3, if_pos q3]
    by_cases q2 : i = 4 * (B 0 9).toNat + 2
    · rw [if_neg q3, if_neg q3, if_pos q2, if_pos q2]
    by_cases q1 : i = 4 * (B 0 9).toNat + 1
    · rw [if_neg q3, if_neg q3, if_neg q2, if_neg q2, if_pos q1, if_pos q1]
    by_cases q0 : i = 4 * (B 0 9).toNat
    · rw [if_neg q3, if_neg q3, if_neg q2, if_neg q2, if_neg q1, if_neg q1, if_pos q0, if_pos q0]
    rw [if_neg q3, if_neg q3, if_neg q2, if_neg q2, if_neg q1, if_neg q1, if_neg q0, if_neg q0]
    exact h.2.2.2 i (by omega)
theorem p_kl_beq {A : m_T} {gust : Int} (hA : TA A) : ∀ (r k : Nat) (B B' : Nat → Nat → Int) (n : Int), k + r ≤ tw_nk A → BI A B → beq B B' → beq (p_kl A gust r k B n).1 (p_kl A gust r k B' n).1 ∧ (p_kl A gust r k B n).2 = (p_kl A gust r k B' n).2 := by
  intro r
  induction r with
  | zero => intro k B B' n _ _ h; exact ⟨h, rfl⟩
  | succ r ih =>
    intro k B B' n hk hB h
    have hn := hA.2.1
    unfold p_kl
    have eh : p_heat B' k gust = p_heat B k gust := by unfold p_heat; rw [h.2.2.1 k (by omega)]
    rw [p_goes_beq h (by omega), eh]
    by_cases hg : p_goes A B k = true
    · rw [if_pos hg, if_pos hg]
      exact ih (k + 1) _ _ _ (by omega) (hB.fire (by omega) (by omega) hg) (p_fire_beq h hB (by omega) _)
    · rw [if_neg hg, if_neg hg]
      exact ih (k + 1) _ _ _ (by omega) hB h
theorem beq.up {B B' : Nat → Nat → Int} (h : beq B B') (i : Nat) (hi : i ≠ 9) (y : Int) : beq (bu B 0 i y) (bu B' 0 i y) := by
  have e : ∀ (B : Nat → Nat → Int) k j, k ≠ 0 → bu B 0 i y k j = B k j := fun B k j hk => bu_ne _ _ (fun z => hk z.1)
  have e9 : ∀ (B : Nat → Nat → Int), bu B 0 i y 0 9 = B 0 9 := fun B => bu_ne _ _ (fun z => hi z.2.symm)
  have e0 : ∀ j, B 0 j = B' 0 j → bu B 0 i y 0 j = bu B' 0 i y 0 j := fun j hj => by
    unfold bu; rw [hj]
  refine ⟨⟨e0 0 h.1.1, e0 1 h.1.2.1, e0 9 h.1.2.2⟩, fun c hc => ?_, fun k hk => ?_, fun j hj => ?_⟩
  · simp only [e _ 3 c (by decide), e _ 4 c (by decide), e _ 5 c (by decide), e _ 6 c (by decide), e _ 7 c (by decide)]
    exact h.2.1 c hc
  · rw [e _ 8 k (by decide), e _ 8 k (by decide)]; exact h.2.2.1 k hk
  · rw [e9] at hj
    rw [e _ 9 j (by decide), e _ 9 j (by decide)]; exact h.2.2.2 j hj
theorem p_week_beq {A : m_T} {B B' : Nat → Nat → Int} {gust : Int} (hA : TA A) (hB : BI A B) (h : beq B B') : beq (p_week A B gust).1 (p_week A B' gust).1 ∧ (p_week A B gust).2 = (p_week A B' gust).2 := by
  have hl : beq (p_load A B) (p_load A B') := by
    unfold p_load
    rw [← h.1.2.1]
    exact h.up 1 (by decide) _
  obtain ⟨k1, k2⟩ := p_kl_beq (gust := gust) hA (tw_nk A) 0 _ _ 0 (by omega) (BI.load hA hB) hl
  unfold p_week
  refine ⟨?_, k2⟩
  dsimp only
  rw [k1.1.1]
  exact k1.up 0 (by decide) _
/-! steps of a firing as the reference does it: place p with the next one -/
section ST
variable {A : m_T} {B : Nat → Nat → Int} {kn : Nat} {heat p : Int} {c : Nat}
theorem s7_same (h1 : B 4 c ≠ p) (h2 : B 4 c ≠ p + 1) : s7 A B kn heat (p + 2) c = s7 A B kn heat (p + 1) c := by
  unfold s7
  have e1 : (B 4 c + 1 < p + 2) ↔ (B 4 c + 1 < p + 1) := by omega
  have e2 : (B 4 c < p + 2) ↔ (B 4 c < p + 1) := by omega
  simp only [e1, e2]
theorem s7_l (h1 : B 4 c = p) : s7 A B kn heat (p + 2) c = if sStk A B heat c (b_who B kn (p + 1)) = true then i_or (s7 A B kn heat (p + 1) c) (i_shl 1 (b_who B kn (p + 1))) else s7 A B kn heat (p + 1) c := by
  unfold s7
  have e2 : (B 4 c < p + 2) ↔ (B 4 c < p + 1) := by omega
  simp only [e2]
  rw [if_neg (show ¬ (B 4 c + 1 < p + 1 ∧ sStk A B heat c (b_who B kn (B 4 c + 1)) = true) by omega), h1]
  by_cases q : sStk A B heat c (b_who B kn (p + 1)) = true
  · rw [if_pos ⟨by omega, q⟩, if_pos q]
  · rw [if_neg (fun z => q z.2), if_neg q]
theorem s7_r (h1 : B 4 c = p + 1) : s7 A B kn heat (p + 2) c = if sStk A B heat (b_who B kn p) c = true then i_or (s7 A B kn heat (p + 1) c) (i_shl 1 (b_who B kn p)) else s7 A B kn heat (p + 1) c := by
  unfold s7
  rw [if_neg (show ¬ (B 4 c + 1 < p + 2 ∧ sStk A B heat c (b_who B kn (B 4 c + 1)) = true) by omega), if_neg (show ¬ (B 4 c + 1 < p + 1 ∧ sStk A B heat c (b_who B kn (B 4 c + 1)) = true) by omega), if_neg (show ¬ (B 4 c < p + 1 ∧ sStk A B heat (b_who B kn (B 4 c - 1)) c = true) by omega), show B 4 c - 1 = p by omega]
  by_cases q : sStk A B heat (b_who B kn p) c = true
  · rw [if_pos ⟨by omega, q⟩, if_pos q]
  · rw [if_neg (fun z => q z.2), if_neg q]
theorem sStk_m1 (l : Int) : sStk A B heat l (-1) = false := by unfold sStk; simp
theorem sStk_m2 (l : Int) : sStk A B heat (-1) l = false := by unfold sStk; simp
/-- nobody sits behind the room -/
theorem who_top (hB : BI A B) {q : Int} (hq : tw_room A kn ≤ q) : b_who B kn q = -1 := by
  refine who_m (fun e he z => ?_)
  have := ((hB.2.2.2.2.1 e he).raw z.1).2.2.2.2.2.2
  have := z.2
  omega
theorem s7_top (hB : BI A B) {q : Int} (hq : tw_room A kn ≤ q) (hc : B 4 c < tw_room A kn) : s7 A B kn heat q c = s7 A B kn heat (tw_room A kn) c := by
  unfold s7
  have e2 : (B 4 c < q) ↔ (B 4 c < tw_room A kn) := by omega
  simp only [e2]
  by_cases h1 : B 4 c + 1 < tw_room A kn
  · have e1 : (B 4 c + 1 < q) ↔ (B 4 c + 1 < tw_room A kn) := by omega
    simp only [e1]
  · rw [who_top hB (show tw_room A kn ≤ B 4 c + 1 by omega), sStk_m1]; simp only [Bool.false_eq_true, and_false, if_false]
theorem sCnt_top (hB : BI A B) : ∀ (r p : Nat), tw_room A kn ≤ (p : Int) → sCnt A B kn heat r p = 0 := by
  intro r
  induction r with
  | zero => intro p _; rfl
  | succ r ih =>
    intro p hp
    unfold sCnt
    rw [who_top hB hp, if_pos rfl, ih (p + 1) (by omega)]
    rfl
theorem sCnt_add : ∀ (r s p : Nat), sCnt A B kn heat (r + s) p = sCnt A B kn heat r p + sCnt A B kn heat s (p + r) := by
  intro r
  induction r with
  | zero => intro s p; rw [Nat.zero_add]; unfold sCnt; rw [Int.zero_add]; cases s <;> rfl
  | succ r ih =>
    intro s p
    rw [show r + 1 + s = (r + s) + 1 by omega]
    conv => lhs; unfold sCnt
    conv => rhs; arg 1; unfold sCnt
    rw [ih s (p + 1), show p + 1 + r = p + (r + 1) by omega]
    omega
end ST
theorem m_fst_ext {p : Nat → Bool} {n m : Nat} : ∀ r i, i + r = n → n ≤ m → (∀ j, n ≤ j → j < m → p j = false) → m_fst p i (m - i) = m_fst p i r := by
  intro r
  induction r with
  | zero =>
    intro i hi hm h
    have : ∀ s j, n ≤ j → j + s ≤ m → m_fst p j s = -1 := by
      intro s
      induction s with
      | zero => intro j _ _; rfl
      | succ s ih => intro j hj hs; unfold m_fst; rw [h j hj (by omega)]; exact ih (j + 1) (by omega) (by omega)
    exact this (m - i) i (by omega) (by omega)
  | succ r ih =>
    intro i hi hm h
    rw [show m - i = (m - (i + 1)) + 1 by omega]
    unfold m_fst
    rw [ih (i + 1) (by omega) hm h]
theorem m_cnt_ext {p : Nat → Bool} {n m : Nat} : ∀ r i, i + r = n → n ≤ m → (∀ j, n ≤ j → j < m → p j = false) → m_cnt p i (m - i) = m_cnt p i r := by
  intro r
  induction r with
  | zero =>
    intro i hi hm h
    have : ∀ s j, n ≤ j → j + s ≤ m → m_cnt p j s = 0 := by
      intro s
      induction s with
      | zero => intro j _ _; rfl
      | succ s ih => intro j hj hs; unfold m_cnt; rw [h j hj (by omega), ih (j + 1) (by omega) (by omega)]; rfl
    exact this (m - i) i (by omega) (by omega)
  | succ r ih =>
    intro i hi hm h
    rw [show m - i = (m - (i + 1)) + 1 by omega]
    unfold m_cnt
    rw [ih (i + 1) (by omega) hm h]
/-- the reference looks at the children that there are: the others sit nowhere -/
theorem mB_who {A : m_T} {M : Nat → Nat → Int} {v : Nat} (hA : TA A) (hB : BI A (mB M v)) (kn : Nat) (p : Int) : m_fst (fun c => M 45 (8 * v + c) == (kn : Int) && M 46 (8 * v + c) == p) 0 (tw_nc A) = b_who (mB M v) kn p :=
  (m_fst_ext (m := 8) (tw_nc A) 0 (by omega) hA.1 (fun j h1 h2 => by
    by_cases q : M 45 (8 * v + j) = (kn : Int)
    · exact absurd (hB.nc j h2 q) (by omega)
    · simp [q])).symm
theorem mB_cnt {A : m_T} {M : Nat → Nat → Int} {v : Nat} (hA : TA A) (hB : BI A (mB M v)) (kn : Nat) : m_cnt (fun c => M 45 (8 * v + c) == (kn : Int)) 0 (tw_nc A) = b_cnt (mB M v) kn :=
  (m_cnt_ext (m := 8) (tw_nc A) 0 (by omega) hA.1 (fun j h1 h2 => by
    by_cases q : M 45 (8 * v + j) = (kn : Int)
    · exact absurd (hB.nc j h2 q) (by omega)
    · simp [q])).symm
