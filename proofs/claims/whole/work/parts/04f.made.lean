/-! ===== the small machine: rows copied, cells made ===== -/
theorem m_at.keptG {G : m_G} {μ μ' : m_M} {a : Nat} {q : Nat × Nat} {H H' : Heap} (h : m_at G μ q a H) (hc : ∀ c, μ' q.1 q.2 c = μ q.1 q.2 c) (hH : H'[a]? = H[a]?) : m_at G μ' q a H' := by
  unfold m_at at h ⊢
  split at h
  · next h0 =>
    rw [if_pos h0]
    rw [h0] at hc
    refine ⟨?_, fun j => by rw [hc j]; exact h.2 j⟩
    have := h.1.kept hH
    simpa only [hc] using this
  · next h0 =>
    rw [if_neg h0]
    refine ⟨by rw [hH, h.1]; simp only [hc], fun j => by rw [hc j]; exact h.2 j⟩
theorem m_Pic.putG {G : m_G} {n o k : Nat} {μ μ' : m_M} {H H' : Heap} (hP : m_Pic G n μ H) (hE : m_E.idxOf (o, k) < n) (hm : ∀ a b c, ¬ (a = o ∧ b = k) → μ' a b c = μ a b c) (hz : H'.size = H.size) (ho : ∀ q, q ≠ m_ad G (o, k) → H'[q]? = H[q]?) (hc : m_at G μ' (o, k) (m_ad G (o, k)) H') : m_Pic G n μ' H' := by
  refine ⟨hz.trans hP.1, hP.2.1, fun j q hj hq => ?_⟩
  have ha := m_ad_own G (m_E_ne hE hP.2.1)
  by_cases e : q = (o, k)
  · subst e
    have := m_E_ix hq
    rw [← this, ← ha]
    exact hc
  · refine (hP.2.2 j q hj hq).keptG (fun c => hm _ _ _ (fun z => e (Prod.ext z.1 z.2))) (ho _ (fun z => e ?_))
    rw [ha] at z
    have h1 := m_E_ix hq
    have h2 : j = m_E.idxOf (o, k) := by omega
    rw [h2, m_E_at hE hP.2.1] at hq
    exact (Option.some.inj hq).symm
theorem m_fu.putG {b : Bool} {n o k : Nat} {μ μ' : m_M} (h : m_fu b n μ) (hm : ∀ a b c, ¬ (a = o ∧ b = k) → μ' a b c = μ a b c) (hk : k ≠ 0) (h6 : (m_ar o k).1 ≠ 4) : m_fu b n μ' := by
  intro hb
  obtain ⟨h0, h1, h2, h3⟩ := h hb
  refine ⟨h0, fun a c hc => ?_, fun a c hc => ?_, fun i hi => ?_⟩
  · rw [hm _ _ _ (fun z => hk z.2.symm)]; exact h1 a c hc
  · rw [hm _ _ _ (fun z => hk z.2.symm)]; exact h2 a c hc
  · rw [hm _ _ _ (fun z => h6 (by rw [← z.1, ← z.2]; rfl))]; exact h3 i hi
/-- n places from p1 on of the row (o1, w1) come to p2 and on of the row (o, w) -/
def m_cp (μ : m_M) (o1 w1 p1 o w p2 n : Nat) : m_M := fun a b c => if a = o ∧ b = w ∧ p2 ≤ c ∧ c < p2 + n then μ o1 w1 (p1 + (c - p2)) else μ a b c
section MCP
variable {G : m_G} {X : m_X} {Y : m_Y} {d mc ms : Nat} {S : Nat × Bool × Nat × Nat} {μ : m_M} {pc : Nat} {lv : List (Option m_V)} {st : List m_V}
theorem m_copy (C : m_Cx G X Y (d + 1) mc ms) {idx o1 w1 o w l1 l2 : Nat} {p1 p2 n : Int} (hd : decode Y.2.1 pc = .ok (.invokestatic idx, 3)) (v1 : Cond.methodLink Y.1.cls idx arraycopyName ∈ m_w) (v2 : Cond.native arraycopyName ∈ m_w) (v3 : Cond.static arraycopyName ∈ m_w) (v4 : Cond.initialized "java/lang/System" ∈ m_w)
    (hE1 : m_E.idxOf (o1, w1) < S.1) (hw1 : w1 ≠ 0) (ha1 : m_ar o1 w1 = (0, l1)) (hE2 : m_E.idxOf (o, w) < S.1) (hw2 : w ≠ 0) (ha2 : m_ar o w = (0, l2)) (h1 : 0 ≤ p1) (h2 : 0 ≤ p2) (h3 : 0 ≤ n) (h4 : p1 + n ≤ l1) (h5 : p2 + n ≤ l2) (hw : (st.map m_cat).sum ≤ 8)
    (k : m_W G X Y S (m_cp μ o1 w1 p1.toNat o w p2.toNat n.toNat) (pc + 3) lv st) : m_W G X Y S μ pc lv (vI n :: vI p2 :: vR o w :: vI p1 :: vR o1 w1 :: st) := by
  obtain ⟨p, l, e, R, s, m, args, below, meth, c, Qf⟩ := X
  obtain ⟨hx, hb, hml, hrt, hlk, hnm, hown, hts, hK, hZ, hfr, hlo, hce, hsl, hll⟩ := C
  intro H locs ls hP hf hS ho hlv
  have i3 : in32 n := ok_hdI ho
  have i2 : in32 p2 := ok_hdI (ok_tl ho)
  have i1 : in32 p1 := ok_hdI (ok_tl (ok_tl (ok_tl ho)))
  have c0 := m_cell hP hE1
  have c1 := m_cell hP hE2
  unfold m_at at c0 c1
  rw [if_neg hw1, ha1] at c0
  rw [if_neg hw2, ha2] at c1
  dsimp only at c0 c1
  have hnf : nativeFrameWords "java/lang/System" "arraycopy" 5 + 11 ≤ 40 := by decide
  have t1 : ArrOfT s (G.2.2.1 0) .int := (hK.1.2 0 _ rfl).1
  obtain ⟨-, k0, hk0, cm0, hkk0⟩ := t1 l1 (fun i => m_ev G 0 (μ o1 w1 i))
  have z : ∀ x : Int, in32 x → 0 ≤ x → ¬ Int32.ofInt x < 0 := fun x hx h0 => by rw [o32_0, o32_lt hx in32_0]; omega
  intro T hT XX
  obtain ⟨vm', X', step⟩ := XX.arraycopy hx hown (hts _ v1) (hts _ v2) (hts _ v3) (hts _ v4) (cs := arrV (G.2.2.1 0) l1 (fun i => m_ev G 0 (μ o1 w1 i))) (cd := arrV (G.2.2.1 0) l2 (fun i => m_ev G 0 (μ o w i))) (src := m_ad G (o1, w1)) (dst := m_ad G (o, w)) (srcPos := Int32.ofInt p1) (destPos := Int32.ofInt p2) (n := Int32.ofInt n) (sType := .int) (dType := .int) (by rw [hT]; exact c0.1) (by rw [hT]; exact c1.1)
    (fun _ h => by cases h) (fun _ h => by cases h) (fun h => by cases h) (fun h => by cases h) hk0 hk0 hkk0 hkk0 rfl (z _ i1 h1) (z _ i2 h2) (z _ i3 h3)
    (by rw [t32 i1, t32 i3, arrV_size]; omega) (by rw [t32 i2, t32 i3, arrV_size]; omega)
    (fun vm₁ _ i hi => by
      rw [o32_cl i3] at hi
      rw [o32_cl i1, Array.getD_eq_getD_getElem?, arrV_read _ _ (by omega)]
      exact ⟨rfl, trivial⟩)
    (g := F0 m pc ls ((vI n :: vI p2 :: vR o w :: vI p1 :: vR o1 w1 :: st).map (m_rv G))) rfl (by rw [hml]; exact hlv.1.1) (rest := st.map (m_rv G)) rfl (by rw [hb]; exact hd) (by omega) (by show 2 * 0 + _ + (nativeFrameWords "java/lang/System" "arraycopy" 5 + 11) ≤ R.locals; rw [m_cats]; omega)
  have e1 : copied (arrV (G.2.2.1 0) l1 (fun i => m_ev G 0 (μ o1 w1 i))) (arrV (G.2.2.1 0) l2 (fun i => m_ev G 0 (μ o w i))) (Int32.ofInt p1) (Int32.ofInt p2) (Int32.ofInt n) = arrV (G.2.2.1 0) l2 (fun j => m_ev G 0 (va_cpy (μ o1 w1) (μ o w) (Int32.ofInt p1).toNatClampNeg (Int32.ofInt p2).toNatClampNeg (Int32.ofInt n).toNatClampNeg j)) := va_copied (fun x => m_ev G 0 x) _ _ _ _ (by rw [o32_cl i1, o32_cl i3]; omega)
  rw [o32_cl i1, o32_cl i2, o32_cl i3] at e1
  rw [e1] at X' step
  have hl : m_ad G (o, w) < H.size := (Array.getElem?_eq_some_iff.mp c1.1).1
  generalize hcl : arrV (G.2.2.1 0) l2 (fun j => m_ev G 0 (va_cpy (μ o1 w1) (μ o w) p1.toNat p2.toNat n.toNat j)) = cc at X' step
  have hheap : ((T.setVm vm').setCell (m_ad G (o, w)) cc).heap = H.setIfInBounds (m_ad G (o, w)) cc := by rw [← hT]; rfl
  have oq : ∀ q : Nat, q ≠ m_ad G (o, w) → (H.setIfInBounds (m_ad G (o, w)) cc)[q]? = H[q]? := fun q hq => by rw [Array.getElem?_setIfInBounds_ne (fun z => hq z.symm)]
  have zq : (H.setIfInBounds (m_ad G (o, w)) cc).size = H.size := by simp
  have hcp : ∀ i, m_cp μ o1 w1 p1.toNat o w p2.toNat n.toNat o w i = va_cpy (μ o1 w1) (μ o w) p1.toNat p2.toNat n.toNat i := fun i => by simp [m_cp, va_cpy]
  have hoff : ∀ a b c, ¬ (a = o ∧ b = w) → m_cp μ o1 w1 p1.toNat o w p2.toNat n.toNat a b c = μ a b c := fun a b c h => by unfold m_cp; rw [if_neg (fun z => h ⟨z.1, z.2.1⟩)]
  have kk := k (H.setIfInBounds (m_ad G (o, w)) cc) _ ls (hP.putG hE2 hoff zq oq (by
      unfold m_at
      rw [if_neg hw2, ha2]
      refine ⟨?_, fun i => ?_⟩
      · rw [Array.getElem?_setIfInBounds_self, if_pos hl, ← hcl]
        simp only [hcp]
      · rw [hcp]
        unfold va_cpy
        split
        · exact c0.2 _
        · exact c1.2 _)) (hf.putG hoff hw2 (by rw [ha2]; exact fun h => by cases h))
    (⟨by rw [zq]; exact hS.1, fun q g1 g2 => by
        rw [oq q (fun e => g2 (by rw [e]; exact m_A_ad hE2 hP.2.1))]
        exact hS.2.1 q g1 g2, fun q hq => by
        rcases List.mem_append.mp hq with h | h
        · exact hS.2.2 q h
        · obtain ⟨z, -, hz⟩ := List.mem_map.mp h
          rw [← hz]
          exact m_A_ad hE2 hP.2.1⟩ : va_S (m_A G) s.heap _ (locs ++ ((arrV (G.2.2.1 0) l1 (fun i => m_ev G 0 (μ o1 w1 i))).stretch (Int32.ofInt p1).toNatClampNeg (Int32.ofInt n).toNatClampNeg).zipIdx.map fun q => ⟨m_ad G (o, w), (Int32.ofInt p2).toNatClampNeg + q.2⟩)) (ok_tl (ok_tl (ok_tl (ok_tl (ok_tl ho))))) hlv
  obtain ⟨t, a1, b1⟩ := kk _ hheap X'
  exact ⟨t, step t a1, b1⟩
/-- the next cell is made -/
theorem m_Pic.push {G : m_G} {n : Nat} {μ : m_M} {q : Nat × Nat} {H H' : Heap} (hP : m_Pic G n μ H) (hq : m_E[n]? = some q) (hz : H'.size = H.size + 1) (ho : ∀ a, a < H.size → H'[a]? = H[a]?) (hc : m_at G μ q (m_ad G q) H') : m_Pic G (n + 1) μ H' := by
  have hn : n < m_E.length := (List.getElem?_eq_some_iff.mp hq).1
  refine ⟨by rw [hz, hP.1]; omega, hn, fun j q' hj hq' => ?_⟩
  by_cases e : j = n
  · subst e
    cases Option.some.inj (hq.symm.trans hq')
    have h0 : q.1 ≠ 0 := m_E_pos q (List.mem_of_getElem? hq)
    rw [m_ad_own G h0, m_E_ix hq] at hc
    exact hc
  · exact (hP.2.2 j q' (by omega) hq').keptG (fun _ => rfl) (ho _ (by rw [hP.1]; omega))
theorem m_new (C : m_Cx G X Y d mc ms) {idx n kc ks o : Nat} {CC : String} {T : u_T} {N : Nat} (hd : decode Y.2.1 pc = .ok (.new idx, 3)) (hcl : vwCl[m_cls o]? = some (CC, T, N)) (w1 : Cond.classLink Y.1.cls idx CC ∈ m_w) (w2 : Cond.instantiable CC N ∈ m_w) (w3 : Cond.initialized CC ∈ m_w) (hq : m_E[n]? = some (o, 0)) (h0 : ∀ j, μ o 0 j = 0) (h1 : kc + 1 ≤ mc) (h2 : ks + N ≤ ms)
    (k : m_W G X Y (n + 1, false, kc + 1, ks + N) μ (pc + 3) lv (vR o 0 :: st)) : m_W G X Y (n, false, kc, ks) μ pc lv st := by
  obtain ⟨p, l, e, R, s, m, args, below, meth, c, Qf⟩ := X
  obtain ⟨hx, hb, hml, hrt, hlk, hnm, hown, hts, hK, hZ, hfr, hlo, hce, hsl, hll⟩ := C
  intro H locs ls hP hf hS ho hlv
  have hKn := hK.1.1 _ _ hcl
  obtain ⟨hin, -, ty, hty, htk⟩ := m_cok_of hcl
  have had : m_ad G (o, 0) = H.size := by
    rw [m_ad_own G (m_E_pos (o, 0) (List.mem_of_getElem? hq)), m_E_ix hq]
    exact hP.1.symm
  refine W.newcK (C := CC) (n := N) hx hb hown (hts _ w1) (hts _ w2) (hts _ w3) rfl hd (by show kc + 1 ≤ R.cells; omega) (by show ks + N ≤ R.slots; omega) hKn.2.1 rfl fun H1 kC hkC e1 z1 o1 => ?_
  have kk := k H1 locs ls (hP.push hq z1 o1 (by
    unfold m_at
    rw [if_pos rfl, m_len_of hcl, had]
    refine ⟨?_, fun j => ?_⟩
    · refine t_OB.to (u_born ty hts hin hKn hkC e1 hty) (fun j hj => ?_)
      show defaultValue (ty j) = m_fv G (m_sk (m_cls o) j) (μ o 0 j)
      rw [h0 j]
      have := htk j hj
      revert this
      generalize m_sk (m_cls o) j = kd
      intro this
      match kd, ty j, this with
      | 0, .int, _ => rfl
      | 1, .boolean, _ => rfl
      | 2, .long, _ => rfl
      | 3, .array _, _ => rfl
      | 3, .object _, _ => rfl
    · show m_fr _ (μ o 0 j)
      rw [h0 j]
      unfold m_fr in64 in32
      split
      · trivial
      · split <;> omega)) (fun hb => by cases hb) ⟨Nat.le_trans hS.1 (by omega), fun x h1 h2 => (o1 x (Nat.lt_of_lt_of_le h1 hS.1)).trans (hS.2.1 x h1 h2), hS.2.2⟩ (ok_cs (a := vR o 0) trivial ho) hlv
  rw [← had]
  exact kk
def m_aty : Nat → ArrayType
  | 0 => .int
  | 1 => .byte
  | 2 => .boolean
  | _ => .long
theorem m_newa (C : m_Cx G X Y d mc ms) {n kc ks o w a len : Nat} (ha4 : a < 4) (hd : decode Y.2.1 pc = .ok (.newarray (m_aty a), 2)) (w1 : Cond.arrayClass (newarray.typeOf (m_aty a)) ∈ m_w) (hq : m_E[n]? = some (o, w)) (hw : w ≠ 0) (ha : m_ar o w = (a, len)) (hlen : len ≤ 100000) (h0 : ∀ j, μ o w j = 0) (h1 : kc + 1 ≤ mc) (h2 : ks + len ≤ ms)
    (k : m_W G X Y (n + 1, false, kc + 1, ks + len) μ (pc + 2) lv (vR o w :: st)) : m_W G X Y (n, false, kc, ks) μ pc lv (vI (len : Int) :: st) := by
  obtain ⟨p, l, e, R, s, m, args, below, meth, c, Qf⟩ := X
  obtain ⟨hx, hb, hml, hrt, hlk, hnm, hown, hts, hK, hZ, hfr, hlo, hce, hsl, hll⟩ := C
  intro H locs ls hP hf hS ho hlv
  have had : m_ad G (o, w) = H.size := by
    rw [m_ad_own G (m_E_pos (o, w) (List.mem_of_getElem? hq)), m_E_ix hq]
    exact hP.1.symm
  have hi : in32 (len : Int) := by unfold in32; omega
  have hb8 : componentBytes (newarray.typeOf (m_aty a)) ≤ 8 := by
    match a, ha4 with
    | 0, _ => decide
    | 1, _ => decide
    | 2, _ => decide
    | 3, _ => decide
  have hby : len * componentBytes (newarray.typeOf (m_aty a)) ≤ 536870912 := by
    have := Nat.mul_le_mul hlen hb8
    omega
  refine va_newaK (N := len) hx hb (hts _ w1) rfl hd rfl (by rw [o32_0, o32_lt hi in32_0]; omega) (by rw [o32_cl hi]; omega) hby (by show kc + 1 ≤ R.cells; omega) (by show ks + len ≤ R.slots; omega) rfl fun H1 cA e1 z1 o1 hA hN => ?_
  have hcA : cA = G.2.2.1 a := by
    match a, ha4, hN with
    | 0, _, hN => exact Option.some.inj (hN.symm.trans (hK.1.2 0 _ rfl).2)
    | 1, _, hN => exact Option.some.inj (hN.symm.trans (hK.1.2 1 _ rfl).2)
    | 2, _, hN => exact Option.some.inj (hN.symm.trans (hK.1.2 2 _ rfl).2)
    | 3, _, hN => exact Option.some.inj (hN.symm.trans (hK.1.2 3 _ rfl).2)
  have kk := k H1 locs ls (hP.push hq z1 o1 (by
    unfold m_at
    rw [if_neg hw, ha, had, e1, hcA]
    refine ⟨?_, fun j => ?_⟩
    · congr 2
      funext j
      show _ = m_ev G a (μ o w j)
      rw [h0 j]
      match a, ha4 with
      | 0, _ => rfl
      | 1, _ => rfl
      | 2, _ => rfl
      | 3, _ => rfl
    · show m_er a (μ o w j)
      rw [h0 j]
      unfold m_er in64 in32
      split
      · trivial
      · split
        · omega
        · split <;> omega)) (fun hb => by cases hb) ⟨Nat.le_trans hS.1 (by omega), fun x h1 h2 => (o1 x (Nat.lt_of_lt_of_le h1 hS.1)).trans (hS.2.1 x h1 h2), hS.2.2⟩ (ok_cs (a := vR o w) trivial (ok_tl ho)) hlv
  rw [← had] at *
  exact kk
end MCP
