/-! ===== the small machine: the heap ===== -/
theorem m_E_nodup : m_E.Nodup := by decide +kernel
theorem m_E_len : m_E.length = 260 := by decide +kernel
theorem m_E_pos : ∀ q ∈ m_E, q.1 ≠ 0 := by decide +kernel
theorem m_E_at {q : Nat × Nat} {n : Nat} (h : m_E.idxOf q < n) (hn : n ≤ m_E.length) : m_E[m_E.idxOf q]? = some q := by
  have h1 : m_E.idxOf q < m_E.length := Nat.lt_of_lt_of_le h hn
  rw [List.getElem?_eq_getElem h1, List.getElem_idxOf]
theorem m_E_ix {i : Nat} {q : Nat × Nat} (h : m_E[i]? = some q) : m_E.idxOf q = i := by
  obtain ⟨h1, h2⟩ := List.getElem?_eq_some_iff.mp h
  rw [← h2]
  exact List.Nodup.idxOf_getElem m_E_nodup i h1
theorem m_ad_own (G : m_G) {q : Nat × Nat} (h : q.1 ≠ 0) : m_ad G q = G.2.1 + m_E.idxOf q := by unfold m_ad; rw [if_neg h]
theorem m_E_ne {q : Nat × Nat} {n : Nat} (h : m_E.idxOf q < n) (hn : n ≤ m_E.length) : q.1 ≠ 0 := m_E_pos q (List.mem_of_getElem? (m_E_at h hn))
theorem m_cell {G : m_G} {n : Nat} {μ : m_M} {H : Heap} {q : Nat × Nat} (hP : m_Pic G n μ H) (h : m_E.idxOf q < n) : m_at G μ q (m_ad G q) H := by
  rw [m_ad_own G (m_E_ne h hP.2.1)]
  exact hP.2.2 _ q h (m_E_at h hP.2.1)
theorem m_up_at (μ : m_M) (o k i : Nat) (v : Int) : m_up μ o k i v o k i = v := by unfold m_up; rw [if_pos ⟨rfl, rfl, rfl⟩]
theorem m_up_ne (μ : m_M) {o k i a b c : Nat} (v : Int) (h : ¬ (a = o ∧ b = k ∧ c = i)) : m_up μ o k i v a b c = μ a b c := by unfold m_up; rw [if_neg h]
theorem m_up_cell (μ : m_M) {o k i : Nat} {q : Nat × Nat} (v : Int) (h : q ≠ (o, k)) (c : Nat) : m_up μ o k i v q.1 q.2 c = μ q.1 q.2 c := m_up_ne μ v (fun z => h (Prod.ext z.1 z.2.1))
theorem m_at.kept {G : m_G} {μ : m_M} {o k i a : Nat} {v : Int} {q : Nat × Nat} {H H' : Heap} (h : m_at G μ q a H) (hq : q ≠ (o, k)) (hH : H'[a]? = H[a]?) : m_at G (m_up μ o k i v) q a H' := by
  have hc := m_up_cell μ (i := i) v hq
  unfold m_at at h ⊢
  split at h
  · next h0 =>
    rw [if_pos h0]
    rw [h0] at hc
    refine ⟨?_, fun j => by rw [hc j]; exact h.2 j⟩
    have := h.1.kept hH
    simpa only [hc] using this
  · next h0 =>
    rw [if_neg h0]
    refine ⟨by rw [hH, h.1]; simp only [hc], fun j => by rw [hc j]; exact h.2 j⟩
/-- a write to one cell -/
theorem m_Pic.put {G : m_G} {n o k i : Nat} {μ : m_M} {v : Int} {H H' : Heap} (hP : m_Pic G n μ H) (hE : m_E.idxOf (o, k) < n) (hz : H'.size = H.size) (ho : ∀ q, q ≠ m_ad G (o, k) → H'[q]? = H[q]?) (hc : m_at G (m_up μ o k i v) (o, k) (m_ad G (o, k)) H') : m_Pic G n (m_up μ o k i v) H' := by
  refine ⟨hz.trans hP.1, hP.2.1, fun j q hj hq => ?_⟩
  have ha := m_ad_own G (m_E_ne hE hP.2.1)
  by_cases e : q = (o, k)
  · subst e
    have := m_E_ix hq
    rw [← this, ← ha]
    exact hc
  · refine (hP.2.2 j q hj hq).kept e (ho _ (fun z => e ?_))
    rw [ha] at z
    have h1 := m_E_ix hq
    have h2 : j = m_E.idxOf (o, k) := by omega
    rw [h2, m_E_at hE hP.2.1] at hq
    exact (Option.some.inj hq).symm
theorem m_A_ad {G : m_G} {n : Nat} {q : Nat × Nat} (h : m_E.idxOf q < n) (hn : n ≤ m_E.length) : m_A G (m_ad G q) := by
  rw [m_ad_own G (m_E_ne h hn)]
  exact Nat.le_add_right _ _
theorem m_fu.put0 {b : Bool} {n o j : Nat} {μ : m_M} {v : Int} (h : m_fu b n μ) (hk : m_fk (m_cls o) j = 0) : m_fu b n (m_up μ o 0 j v) := by
  intro hb
  obtain ⟨h0, h1, h2, h3⟩ := h hb
  refine ⟨h0, fun a c hc => ?_, fun a c hc => ?_, fun i hi => ?_⟩
  · rw [m_up_ne _ _ (fun z => by rw [z.1, z.2.2, hk] at hc; cases hc)]; exact h1 a c hc
  · rw [m_up_ne _ _ (fun z => by rw [z.1, z.2.2, hk] at hc; cases hc)]; exact h2 a c hc
  · rw [m_up_ne _ _ (fun z => by have := z.2.1; omega)]; exact h3 i hi
theorem m_fu.putA {b : Bool} {n o k i : Nat} {μ : m_M} {v : Int} (h : m_fu b n μ) (hk : k ≠ 0) (h6 : (m_ar o k).1 ≠ 4) : m_fu b n (m_up μ o k i v) := by
  intro hb
  obtain ⟨h0, h1, h2, h3⟩ := h hb
  refine ⟨h0, fun a c hc => ?_, fun a c hc => ?_, fun i hi => ?_⟩
  · rw [m_up_ne _ _ (fun z => hk z.2.1.symm)]; exact h1 a c hc
  · rw [m_up_ne _ _ (fun z => hk z.2.1.symm)]; exact h2 a c hc
  · rw [m_up_ne _ _ (fun z => h6 (by rw [← z.1, ← z.2.1]; rfl))]; exact h3 i hi
/-- what the tables say of a kind of object -/
def m_tyk : Nat → FieldType → Bool
  | 0, .int => true
  | 1, .boolean => true
  | 2, .long => true
  | 3, .array _ => true
  | 3, .object _ => true
  | _, _ => false
def m_FL (own : String) (idx ci j : Nat) (fin : Bool) : Prop := ∃ (C : String) (T : u_T) (N : Nat), vwCl[ci]? = some (C, T, N) ∧ j < N ∧ (T j).1 = C ∧ (T j).2.2.2 = fin ∧ (Cond.fieldLink own idx C (T j).2.1 (T j).2.2.1 ∈ m_w ∨ Cond.fieldLinkNest own idx C (T j).2.1 (T j).2.2.1 "KilnBench" ∈ m_nest)
def m_cok (ci : Nat) (q : vw_C) : Prop := (∀ w ∈ u_ws q.1 q.2.1 q.2.2, w ∈ m_w) ∧ (∀ a, a < q.2.2 → ∀ b, b < q.2.2 → a ≠ b → (q.2.1 a).2.1 ≠ (q.2.1 b).2.1) ∧ ∃ ty : Nat → FieldType, (∀ k, k < q.2.2 → parseFieldDescriptor (q.2.1 k).2.2.1 = some (ty k)) ∧ ∀ k, k < q.2.2 → m_tyk (m_sk ci k) (ty k) = true
theorem m_in_places {big ws : List Cond} (ps : List Nat) (hp : ws = ps.filterMap (fun i => big[i]?)) (hg : ws.all goodWord = true) : ∀ w ∈ ws, w ∈ big.filter goodWord := by
  intro w hw
  have h1 := List.all_eq_true.mp hg w hw
  rw [hp] at hw
  obtain ⟨i, -, hi⟩ := List.mem_filterMap.mp hw
  exact List.mem_filter.mpr ⟨List.mem_of_getElem? hi, h1⟩
set_option maxRecDepth 20000 in
theorem m_cok0 : m_cok 0 (RX0, TX0, 10) := ⟨m_in_places (big := lw_tbl) [396, 398, 400, 402, 404, 406, 408, 410, 412, 414] (by decide +kernel) (by decide +kernel), nmX0, tyX0, tyX0_ok, by decide +kernel⟩
set_option maxRecDepth 20000 in
theorem m_cok1 : m_cok 1 (RX1, TX1, 13) := ⟨m_in_places (big := lw_tbl) [459, 461, 463, 465, 467, 469, 471, 473, 475, 477, 479, 481, 483] (by decide +kernel) (by decide +kernel), nmX1, tyX1, tyX1_ok, by decide +kernel⟩
set_option maxRecDepth 20000 in
theorem m_cok2 : m_cok 2 (RX2, TX2, 3) := ⟨m_in_places (big := lw_tbl) [430, 432, 434] (by decide +kernel) (by decide +kernel), nmX2, tyX2, tyX2_ok, by decide +kernel⟩
set_option maxRecDepth 20000 in
theorem m_cok3 : m_cok 3 (RX3, TX3, 2) := ⟨m_in_places (big := lw_tbl) [525, 527] (by decide +kernel) (by decide +kernel), nmX3, tyX3, tyX3_ok, by decide +kernel⟩
set_option maxRecDepth 20000 in
theorem m_cok4 : m_cok 4 (RX4, TX4, 2) := ⟨m_in_places (big := lw_tbl) [352, 354] (by decide +kernel) (by decide +kernel), nmX4, tyX4, tyX4_ok, by decide +kernel⟩
set_option maxRecDepth 20000 in
theorem m_cok5 : m_cok 5 (RX5, TX5, 2) := ⟨m_in_places (big := lw_tbl) [342, 344] (by decide +kernel) (by decide +kernel), nmX5, tyX5, tyX5_ok, by decide +kernel⟩
set_option maxRecDepth 20000 in
theorem m_cok6 : m_cok 6 (RX6, TX6, 4) := ⟨m_in_places (big := lw_tbl) [319, 321, 323, 325] (by decide +kernel) (by decide +kernel), nmX6, tyX6, tyX6_ok, by decide +kernel⟩
set_option maxRecDepth 20000 in
theorem m_cok7 : m_cok 7 (RX7, TX7, 9) := ⟨m_in_places (big := lw_tbl) [296, 298, 300, 302, 304, 306, 308, 310, 312] (by decide +kernel) (by decide +kernel), nmX7, tyX7, tyX7_ok, by decide +kernel⟩
set_option maxRecDepth 20000 in
theorem m_cok8 : m_cok 8 (RX8, TX8, 6) := ⟨m_in_places (big := lw_tbl) [502, 504, 506, 508, 510, 512] (by decide +kernel) (by decide +kernel), nmX8, tyX8, tyX8_ok, by decide +kernel⟩
set_option maxRecDepth 20000 in
theorem m_cok9 : m_cok 9 (RX10, TX10, 15) := ⟨m_in_places (big := lw_tbl) [186, 188, 190, 192, 194, 196, 198, 200, 202, 204, 206, 208, 210, 212, 214] (by decide +kernel) (by decide +kernel), nmX10, tyX10, tyX10_ok, by decide +kernel⟩
set_option maxRecDepth 20000 in
theorem m_cok10 : m_cok 10 (RX11, TX11, 16) := ⟨m_in_places (big := lw_tbl) [553, 555, 557, 559, 561, 563, 565, 567, 569, 571, 573, 575, 577, 579, 581, 583] (by decide +kernel) (by decide +kernel), nmX11, tyX11, tyX11_ok, by decide +kernel⟩
set_option maxRecDepth 20000 in
theorem m_cok11 : m_cok 11 (RX12, TX12, 67) := ⟨m_in_places (big := lw_tbl) [1291, 1293, 1295, 1297, 1299, 1301, 1303, 1305, 1307, 1309, 1311, 1313, 1315, 1317, 1319, 1321, 1323, 1325, 1327, 1329, 1331, 1333, 1335, 1337, 1339, 1341, 1343, 1345, 1347, 1349, 1351, 1353, 1355, 1357, 1359, 1361, 1363, 1365, 1367, 1369, 1371, 1373, 1375, 1377, 1379, 1381, 1383, 1385, 1387, 1389, 1391, 1393, 1395, 1397, 1399, 1401, 1403, 1405, 1407, 1409, 1411, 1413, 1415, 1417, 1419, 1421, 1423] (by decide +kernel) (by decide +kernel), nmX12, tyX12, tyX12_ok, by decide +kernel⟩
theorem m_cok_of {ci : Nat} {q : vw_C} (h : vwCl[ci]? = some q) : m_cok ci q := by
  match ci, h with
  | 0, h => cases h; exact m_cok0
  | 1, h => cases h; exact m_cok1
  | 2, h => cases h; exact m_cok2
  | 3, h => cases h; exact m_cok3
  | 4, h => cases h; exact m_cok4
  | 5, h => cases h; exact m_cok5
  | 6, h => cases h; exact m_cok6
  | 7, h => cases h; exact m_cok7
  | 8, h => cases h; exact m_cok8
  | 9, h => cases h; exact m_cok9
  | 10, h => cases h; exact m_cok10
  | 11, h => cases h; exact m_cok11
  | n + 12, h => exact absurd h (by simp [vwCl])
theorem m_len_of {ci : Nat} {C : String} {T : u_T} {N : Nat} (h : vwCl[ci]? = some (C, T, N)) : m_len ci = N := by unfold m_len; rw [h]; rfl
theorem m_n4 {o w a len : Nat} (h : m_ar o w = (a, len)) (ha : a ≠ 4) : (m_ar o w).1 ≠ 4 := by rw [h]; exact ha
theorem i_b_in (x : Int) : -128 ≤ i_b x ∧ i_b x ≤ 127 := by
  rw [i_b_def, Int8.toInt_toInt32]
  have h1 := Int8.toInt_lt (Int32.ofInt x).toInt8
  have h2 := Int8.le_toInt (Int32.ofInt x).toInt8
  generalize ((Int32.ofInt x).toInt8).toInt = z at *
  omega
section MHP
variable {G : m_G} {X : m_X} {Y : m_Y} {d mc ms : Nat} {S : Nat × Bool × Nat × Nat} {μ : m_M} {pc : Nat} {lv : List (Option m_V)} {st : List m_V}
/-- getfield, whatever the field holds -/
theorem m_getW (C : m_Cx G X Y d mc ms) {idx ci j o : Nat} {fin : Bool} {v : m_V} (hd : decode Y.2.1 pc = .ok (.getfield idx, 3)) (hF : m_FL Y.1.cls idx ci j fin) (hc : m_cls o = ci) (hE : m_E.idxOf (o, 0) < S.1) (hv : m_rv G v = m_fv G (m_sk ci j) (μ o 0 j)) (ho : m_fr (m_sk ci j) (μ o 0 j) → m_ok v)
    (k : m_W G X Y S μ (pc + 3) lv (v :: st)) : m_W G X Y S μ pc lv (vR o 0 :: st) := by
  obtain ⟨p, l, e, R, s, m, args, below, meth, c, Qf⟩ := X
  obtain ⟨hx, hb, -, -, -, -, hown, hts, hK, -⟩ := C
  obtain ⟨CC, T, N, hcl, hj, hT1, -, hlink⟩ := hF
  intro H locs ls hP hf hS hst hl
  have hcell := m_cell hP hE
  unfold m_at at hcell
  rw [if_pos rfl] at hcell
  subst hc
  rw [m_len_of hcl] at hcell
  obtain ⟨⟨cell, q1, q2, q3, q4⟩, hr⟩ := hcell
  obtain ⟨hin, -, -⟩ := m_cok_of hcl
  obtain ⟨hSl, hfc, kC, hkC, hkind⟩ := hK.1.1 _ _ hcl
  obtain ⟨cf, kf, fi, f, hi, hsl⟩ := hSl j hj
  have hi' : s.fieldFound? CC (T j).2.1 (T j).2.2.1 = some (cf, kf, fi, f) := by rw [← hT1]; exact hi
  have hst' := (u_facts hfc hkC (u_lays hts hin hj) hi).1
  have hv' : cell.slots[f.slot]? = some (m_rv G v) := by rw [hsl, q4 j hj, hv]
  have kk := k H locs ls hP hf hS (ok_cs (ho (hr j)) (ok_tl hst)) hl
  rcases hlink with hlink | hlink
  · exact W.getf hx hb hown (hts _ hlink) hi' hst' q1 (by rw [q3]; exact fun h => by cases h) hv' rfl rfl hd kk
  · exact va_Wgetf hx hb hown ((hK.2.1 _ hlink).use rfl) hi' hst' q1 (by rw [q3]; exact fun h => by cases h) hv' rfl rfl hd kk
theorem m_getI (C : m_Cx G X Y d mc ms) {idx ci j o : Nat} {fin : Bool} (hd : decode Y.2.1 pc = .ok (.getfield idx, 3)) (hF : m_FL Y.1.cls idx ci j fin) (hc : m_cls o = ci) (hE : m_E.idxOf (o, 0) < S.1) (hk : m_sk ci j = 0 ∨ m_sk ci j = 1)
    (k : m_W G X Y S μ (pc + 3) lv (vI (μ o 0 j) :: st)) : m_W G X Y S μ pc lv (vR o 0 :: st) :=
  m_getW C hd hF hc hE (by rcases hk with h | h <;> rw [h] <;> rfl) (by rcases hk with h | h <;> rw [h] <;> exact id) k
theorem m_getJ (C : m_Cx G X Y d mc ms) {idx ci j o : Nat} {fin : Bool} (hd : decode Y.2.1 pc = .ok (.getfield idx, 3)) (hF : m_FL Y.1.cls idx ci j fin) (hc : m_cls o = ci) (hE : m_E.idxOf (o, 0) < S.1) (hk : m_sk ci j = 2)
    (k : m_W G X Y S μ (pc + 3) lv (vJ (μ o 0 j) :: st)) : m_W G X Y S μ pc lv (vR o 0 :: st) :=
  m_getW C hd hF hc hE (by rw [hk]; rfl) (by rw [hk]; exact id) k
theorem m_rf_of (G : m_G) {t w : Nat} {x : Int} (hx : x = 100 * (t : Int) + (w : Int)) (hw : w < 100) (ht : t ≠ 0) : m_rf G x = .ref (m_ad G (t, w)) := by
  unfold m_rf
  rw [if_neg (by omega), show x.toNat / 100 = t by omega, show x.toNat % 100 = w by omega]
theorem m_getR (C : m_Cx G X Y d mc ms) {idx ci j o t w : Nat} {fin : Bool} (hd : decode Y.2.1 pc = .ok (.getfield idx, 3)) (hF : m_FL Y.1.cls idx ci j fin) (hc : m_cls o = ci) (hE : m_E.idxOf (o, 0) < S.1) (hk : m_sk ci j = 3) (hx : μ o 0 j = 100 * (t : Int) + (w : Int)) (hw : w < 100) (ht : t ≠ 0)
    (k : m_W G X Y S μ (pc + 3) lv (vR t w :: st)) : m_W G X Y S μ pc lv (vR o 0 :: st) :=
  m_getW (v := vR t w) C hd hF hc hE (by rw [hk]; show _ = m_rf G _; rw [m_rf_of G hx hw ht]; rfl) (fun _ => trivial) k
/-- putfield -/
theorem m_putW (C : m_Cx G X Y d mc ms) {idx ci j o : Nat} {fin : Bool} {v : m_V} {x : Int} (hd : decode Y.2.1 pc = .ok (.putfield idx, 3)) (hF : m_FL Y.1.cls idx ci j fin) (hnn : Y.1.cls = (vwCl.getD ci ("", fun _ => ("", "", "", false), 0)).1 ∧ Y.1.name = "<init>" ∨ fin = false) (hc : m_cls o = ci) (hE : m_E.idxOf (o, 0) < S.1) (hk : m_fk ci j = 0 ∨ S.2.1 = false) (hv : m_rv G v = m_fv G (m_sk ci j) x) (hr : m_ok v → m_fr (m_sk ci j) x)
    (hfit : ∀ ty, m_tyk (m_sk ci j) ty = true → m_ok v → narrow ty (m_rv G v) = m_rv G v ∧ fits ty (m_rv G v) = true)
    (k : m_W G X Y S (m_up μ o 0 j x) (pc + 3) lv st) : m_W G X Y S μ pc lv (v :: vR o 0 :: st) := by
  obtain ⟨p, l, e, R, s, m, args, below, meth, c, Qf⟩ := X
  obtain ⟨hx, hb, -, -, -, hnm, hown, hts, hK, -⟩ := C
  obtain ⟨CC, T, N, hcl, hj, hT1, hT2, hlink⟩ := hF
  intro H locs ls hP hf hS hst hl
  have hcell := m_cell hP hE
  unfold m_at at hcell
  rw [if_pos rfl] at hcell
  subst hc
  rw [m_len_of hcl] at hcell
  obtain ⟨⟨cell, q1, q2, q3, q4⟩, hrg⟩ := hcell
  obtain ⟨hin, hnms, ty, hty, htk⟩ := m_cok_of hcl
  have hap := va_apart (own := Y.1.cls) hts hin ty hty hnms hK.1 hcl
  obtain ⟨hSl, hfc, kC, hkC, hkind⟩ := hK.1.1 _ _ hcl
  obtain ⟨cf, kf, fi, f, hi, hsl⟩ := hSl j hj
  have hi' : s.fieldFound? CC (T j).2.1 (T j).2.2.1 = some (cf, kf, fi, f) := by rw [← hT1]; exact hi
  have hst' := (u_facts hfc hkC (u_lays hts hin hj) hi).1
  obtain ⟨hn1, hn2⟩ := hfit (ty j) (htk j hj) (ok_hd hst)
  have h6 := u_fits hfc hkC hkind (u_lays hts hin hj) hi (hty j hj) hn1 hn2
  have hfin : hasFlag f.accessFlags Acc.final = false ∨ (m.cls = cf ∧ meth.name = "<init>") := by
    have hlay := hts _ (hin _ (u_in_lay hj))
    unfold u_lay at hlay
    by_cases hfi : (T j).2.2.2 = true
    · rw [if_pos hfi] at hlay
      right
      rcases hnn with ⟨hn1, hn2⟩ | hnn
      · obtain ⟨_, _, c', _, _, _, -, -, hf', -, -, -, hown2, -⟩ := Cond.laysFinal_spec hlay
        have e1 : c' = cf := by have := hi.symm.trans hf'; simp at this; exact this.1.symm
        have e2 : Y.1.cls = CC := by rw [hn1, List.getD_eq_getElem?_getD, hcl]; rfl
        rw [hT1, ← e2] at hown2
        exact ⟨by rw [← e1]; exact Option.some.inj (hown.symm.trans hown2), by rw [hnm]; exact hn2⟩
      · rw [hT2, hnn] at hfi; cases hfi
    · rw [if_neg hfi] at hlay
      left
      exact (u_store hfc hkC hkind hlay hi (hty j hj) hn1 hn2).1
  have hlt : f.slot < cell.slots.size := by rw [hsl]; exact k2_hasslot (q4 j hj)
  have ha : m_ad G (o, 0) < H.size := (Array.getElem?_eq_some_iff.mp q1).1
  have key : W p l e R s m args below meth c (H.setIfInBounds (m_ad G (o, 0)) (cell.setSlot f.slot (m_rv G v))) (locs ++ [⟨m_ad G (o, 0), f.slot⟩]) S.2.2.1 S.2.2.2 Qf (F0 m (pc + 3) ls (st.map (m_rv G))) := by
    have z1 : (H.setIfInBounds (m_ad G (o, 0)) (cell.setSlot f.slot (m_rv G v))).size = H.size := by simp
    have o1 : ∀ q : Nat, q ≠ m_ad G (o, 0) → (H.setIfInBounds (m_ad G (o, 0)) (cell.setSlot f.slot (m_rv G v)))[q]? = H[q]? := fun q hq => by rw [Array.getElem?_setIfInBounds_ne (fun z => hq z.symm)]
    have e1 : (H.setIfInBounds (m_ad G (o, 0)) (cell.setSlot f.slot (m_rv G v)))[m_ad G (o, 0)]? = some (cell.setSlot f.slot (m_rv G v)) := by rw [Array.getElem?_setIfInBounds_self, if_pos ha]
    refine k _ _ ls (hP.put hE z1 o1 ?_) ?_ (hS.put z1 o1 (m_A_ad hE hP.2.1)) (ok_tl (ok_tl hst)) hl
    · unfold m_at
      rw [if_pos rfl, m_len_of hcl]
      refine ⟨?_, fun i => ?_⟩
      · rw [hsl] at e1 ⊢
        refine t_OB.to (V := updV (fun i => m_fv G (m_sk (m_cls o) i) (μ o 0 i)) j (m_rv G v)) ⟨_, e1, q2, q3, t_set q4 hap hj _⟩ (fun i _ => ?_)
        by_cases hi : i = j
        · subst hi; simp only [updV, if_true]; rw [m_up_at, hv]
        · simp only [updV, if_neg hi]; rw [m_up_ne _ _ (fun z => hi z.2.2)]
      · by_cases hi : i = j
        · subst hi; rw [m_up_at]; exact hr (ok_hd hst)
        · rw [m_up_ne _ _ (fun z => hi z.2.2)]; exact hrg i
    · rcases hk with hk | hk
      · exact hf.put0 hk
      · intro hb; rw [hk] at hb; cases hb
  rcases hlink with hlink | hlink
  · exact W.putf hx hb hown (hts _ hlink) hi' hst' hfin q1 (by rw [q3]; exact fun h => by cases h) hlt h6.1 (by rw [q3, q2]; exact h6.2) rfl rfl hd key
  · exact va_Wputf hx hb hown ((hK.2.1 _ hlink).use rfl) hi' hst' hfin q1 (by rw [q3]; exact fun h => by cases h) hlt h6.1 (by rw [q3, q2]; exact h6.2) rfl rfl hd key
theorem m_putI (C : m_Cx G X Y d mc ms) {idx ci j o : Nat} {fin : Bool} {x : Int} (hd : decode Y.2.1 pc = .ok (.putfield idx, 3)) (hF : m_FL Y.1.cls idx ci j fin) (hnn : Y.1.cls = (vwCl.getD ci ("", fun _ => ("", "", "", false), 0)).1 ∧ Y.1.name = "<init>" ∨ fin = false) (hc : m_cls o = ci) (hE : m_E.idxOf (o, 0) < S.1) (hk : m_fk ci j = 0 ∨ S.2.1 = false) (hs : m_sk ci j = 0)
    (k : m_W G X Y S (m_up μ o 0 j x) (pc + 3) lv st) : m_W G X Y S μ pc lv (vI x :: vR o 0 :: st) :=
  m_putW (v := vI x) C hd hF hnn hc hE hk (by rw [hs]; rfl) (by rw [hs]; exact id) (fun ty ht _ => by rw [hs] at ht; cases ty <;> first | exact ⟨rfl, rfl⟩ | cases ht) k
theorem m_putZ (C : m_Cx G X Y d mc ms) {idx ci j o : Nat} {fin : Bool} {x : Int} (hd : decode Y.2.1 pc = .ok (.putfield idx, 3)) (hF : m_FL Y.1.cls idx ci j fin) (hnn : Y.1.cls = (vwCl.getD ci ("", fun _ => ("", "", "", false), 0)).1 ∧ Y.1.name = "<init>" ∨ fin = false) (hc : m_cls o = ci) (hE : m_E.idxOf (o, 0) < S.1) (hk : m_fk ci j = 0 ∨ S.2.1 = false) (hs : m_sk ci j = 1) (hx : x = 0 ∨ x = 1)
    (k : m_W G X Y S (m_up μ o 0 j x) (pc + 3) lv st) : m_W G X Y S μ pc lv (vI x :: vR o 0 :: st) :=
  m_putW (v := vI x) C hd hF hnn hc hE hk (by rw [hs]; rfl) (by rw [hs]; exact id) (fun ty ht _ => by rw [hs] at ht; cases ty <;> first | (rcases hx with h | h <;> subst h <;> exact ⟨rfl, rfl⟩) | cases ht) k
theorem m_putJ (C : m_Cx G X Y d mc ms) {idx ci j o : Nat} {fin : Bool} {x : Int} (hd : decode Y.2.1 pc = .ok (.putfield idx, 3)) (hF : m_FL Y.1.cls idx ci j fin) (hnn : Y.1.cls = (vwCl.getD ci ("", fun _ => ("", "", "", false), 0)).1 ∧ Y.1.name = "<init>" ∨ fin = false) (hc : m_cls o = ci) (hE : m_E.idxOf (o, 0) < S.1) (hk : m_fk ci j = 0 ∨ S.2.1 = false) (hs : m_sk ci j = 2)
    (k : m_W G X Y S (m_up μ o 0 j x) (pc + 3) lv st) : m_W G X Y S μ pc lv (vJ x :: vR o 0 :: st) :=
  m_putW (v := vJ x) C hd hF hnn hc hE hk (by rw [hs]; rfl) (by rw [hs]; exact id) (fun ty ht _ => by rw [hs] at ht; cases ty <;> first | exact ⟨rfl, rfl⟩ | cases ht) k
theorem m_putR (C : m_Cx G X Y d mc ms) {idx ci j o t w : Nat} {fin : Bool} {x : Int} (hd : decode Y.2.1 pc = .ok (.putfield idx, 3)) (hF : m_FL Y.1.cls idx ci j fin) (hnn : Y.1.cls = (vwCl.getD ci ("", fun _ => ("", "", "", false), 0)).1 ∧ Y.1.name = "<init>" ∨ fin = false) (hc : m_cls o = ci) (hE : m_E.idxOf (o, 0) < S.1) (hk : m_fk ci j = 0 ∨ S.2.1 = false) (hs : m_sk ci j = 3) (hx : x = 100 * (t : Int) + (w : Int)) (hw : w < 100) (ht : t ≠ 0)
    (k : m_W G X Y S (m_up μ o 0 j x) (pc + 3) lv st) : m_W G X Y S μ pc lv (vR t w :: vR o 0 :: st) :=
  m_putW (v := vR t w) C hd hF hnn hc hE hk (by rw [hs]; show _ = m_rf G _; rw [m_rf_of G hx hw ht]; rfl) (by rw [hs]; exact fun _ => trivial) (fun ty h _ => by rw [hs] at h; cases ty <;> first | exact ⟨rfl, rfl⟩ | cases h) k
/-- an index in its row -/
theorem m_inr {i : Int} {n : Nat} (h : in32 i) (h0 : 0 ≤ i) (h1 : i < n) : ¬ (Int32.ofInt i < 0 ∨ n ≤ (Int32.ofInt i).toNatClampNeg) := by
  rw [o32_cl h, o32_0, o32_lt h in32_0]
  omega
theorem m_alen (C : m_Cx G X Y d mc ms) {o w a len : Nat} (hd : decode Y.2.1 pc = .ok (.arraylength, 1)) (hE : m_E.idxOf (o, w) < S.1) (hw : w ≠ 0) (ha : m_ar o w = (a, len)) (ha4 : a < 5) (hlen : len < 2147483648)
    (k : m_W G X Y S μ (pc + 1) lv (vI (len : Int) :: st)) : m_W G X Y S μ pc lv (vR o w :: st) := by
  obtain ⟨p, l, e, R, s, m, args, below, meth, c, Qf⟩ := X
  obtain ⟨hx, hb, -, -, -, -, hown, hts, hK, -⟩ := C
  intro H locs ls hP hf hS hst hl
  have hcell := m_cell hP hE
  unfold m_at at hcell
  rw [if_neg hw, ha] at hcell
  have hty : ∃ ty, ArrOfT s (G.2.2.1 a) ty := by
    match a, ha4 with
    | 0, _ => exact ⟨_, (hK.1.2 0 _ rfl).1⟩
    | 1, _ => exact ⟨_, (hK.1.2 1 _ rfl).1⟩
    | 2, _ => exact ⟨_, (hK.1.2 2 _ rfl).1⟩
    | 3, _ => exact ⟨_, (hK.1.2 3 _ rfl).1⟩
    | 4, _ => exact ⟨_, (hK.1.2 4 _ rfl).1⟩
  obtain ⟨ty, hty⟩ := hty
  refine W.alen (n := Int32.ofInt (len : Int)) hx hb hcell.1 (hty _ _) (by rw [arrV_size, Int32.ofInt_eq_ofNat]) rfl rfl hd ?_
  exact k H locs ls hP hf hS (ok_csI (by unfold in32; omega) (ok_tl hst)) hl
theorem m_iald (C : m_Cx G X Y d mc ms) {o w len : Nat} {i : Int} (hd : decode Y.2.1 pc = .ok (.iaload, 1)) (hE : m_E.idxOf (o, w) < S.1) (hw : w ≠ 0) (ha : m_ar o w = (0, len)) (h0 : 0 ≤ i) (h1 : i < len)
    (k : m_W G X Y S μ (pc + 1) lv (vI (μ o w i.toNat) :: st)) : m_W G X Y S μ pc lv (vI i :: vR o w :: st) := by
  obtain ⟨p, l, e, R, s, m, args, below, meth, c, Qf⟩ := X
  obtain ⟨hx, hb, -, -, -, -, hown, hts, hK, -⟩ := C
  intro H locs ls hP hf hS hst hl
  have hcell := m_cell hP hE
  unfold m_at at hcell
  rw [if_neg hw, ha] at hcell
  have hi : in32 i := ok_hdI hst
  refine W.iald (v := m_ev G 0 (μ o w i.toNat)) hx hb hcell.1 ((hK.1.2 0 _ rfl).1 _ _) (fun q => by cases q) (by rw [arrV_size]; exact m_inr hi h0 h1) (by rw [o32_cl hi, arrV_read _ _ (by omega)]) rfl rfl hd ?_
  exact k H locs ls hP hf hS (ok_csI (hcell.2 i.toNat) (ok_tl (ok_tl hst))) hl
theorem m_bald (C : m_Cx G X Y d mc ms) {o w len : Nat} {i : Int} (hd : decode Y.2.1 pc = .ok (.baload, 1)) (hE : m_E.idxOf (o, w) < S.1) (hw : w ≠ 0) (ha : m_ar o w = (1, len)) (h0 : 0 ≤ i) (h1 : i < len)
    (k : m_W G X Y S μ (pc + 1) lv (vI (μ o w i.toNat) :: st)) : m_W G X Y S μ pc lv (vI i :: vR o w :: st) := by
  obtain ⟨p, l, e, R, s, m, args, below, meth, c, Qf⟩ := X
  obtain ⟨hx, hb, -, -, -, -, hown, hts, hK, -⟩ := C
  intro H locs ls hP hf hS hst hl
  have hcell := m_cell hP hE
  unfold m_at at hcell
  rw [if_neg hw, ha] at hcell
  have hi : in32 i := ok_hdI hst
  refine W.bald (v := m_ev G 1 (μ o w i.toNat)) hx hb hcell.1 ((hK.1.2 1 _ rfl).1 _ _) (fun q => by cases q) (by rw [arrV_size]; exact m_inr hi h0 h1) (by rw [o32_cl hi, arrV_read _ _ (by omega)]) rfl rfl hd ?_
  exact k H locs ls hP hf hS (ok_csI (by have := hcell.2 i.toNat; simp [m_er] at this; unfold in32; omega) (ok_tl (ok_tl hst))) hl
theorem m_zald (C : m_Cx G X Y d mc ms) {o w len : Nat} {i : Int} (hd : decode Y.2.1 pc = .ok (.baload, 1)) (hE : m_E.idxOf (o, w) < S.1) (hw : w ≠ 0) (ha : m_ar o w = (2, len)) (h0 : 0 ≤ i) (h1 : i < len)
    (k : m_W G X Y S μ (pc + 1) lv (vI (μ o w i.toNat) :: st)) : m_W G X Y S μ pc lv (vI i :: vR o w :: st) := by
  obtain ⟨p, l, e, R, s, m, args, below, meth, c, Qf⟩ := X
  obtain ⟨hx, hb, -, -, -, -, hown, hts, hK, -⟩ := C
  intro H locs ls hP hf hS hst hl
  have hcell := m_cell hP hE
  unfold m_at at hcell
  rw [if_neg hw, ha] at hcell
  have hi : in32 i := ok_hdI hst
  refine W.zald (v := m_ev G 2 (μ o w i.toNat)) hx hb hcell.1 ((hK.1.2 2 _ rfl).1 _ _) (fun q => by cases q) (by rw [arrV_size]; exact m_inr hi h0 h1) (by rw [o32_cl hi, arrV_read _ _ (by omega)]) rfl rfl hd ?_
  exact k H locs ls hP hf hS (ok_csI (by have := hcell.2 i.toNat; simp [m_er] at this; unfold in32; omega) (ok_tl (ok_tl hst))) hl
theorem m_lald (C : m_Cx G X Y d mc ms) {o w len : Nat} {i : Int} (hd : decode Y.2.1 pc = .ok (.laload, 1)) (hE : m_E.idxOf (o, w) < S.1) (hw : w ≠ 0) (ha : m_ar o w = (3, len)) (h0 : 0 ≤ i) (h1 : i < len)
    (k : m_W G X Y S μ (pc + 1) lv (vJ (μ o w i.toNat) :: st)) : m_W G X Y S μ pc lv (vI i :: vR o w :: st) := by
  obtain ⟨p, l, e, R, s, m, args, below, meth, c, Qf⟩ := X
  obtain ⟨hx, hb, -, -, -, -, hown, hts, hK, -⟩ := C
  intro H locs ls hP hf hS hst hl
  have hcell := m_cell hP hE
  unfold m_at at hcell
  rw [if_neg hw, ha] at hcell
  have hi : in32 i := ok_hdI hst
  refine W.lald (v := m_ev G 3 (μ o w i.toNat)) hx hb hcell.1 ((hK.1.2 3 _ rfl).1 _ _) (fun q => by cases q) (by rw [arrV_size]; exact m_inr hi h0 h1) (by rw [o32_cl hi, arrV_read _ _ (by omega)]) rfl rfl hd ?_
  exact k H locs ls hP hf hS (ok_csJ (hcell.2 i.toNat) (ok_tl (ok_tl hst))) hl
theorem m_iast (C : m_Cx G X Y d mc ms) {o w len : Nat} {i x : Int} (hd : decode Y.2.1 pc = .ok (.iastore, 1)) (hE : m_E.idxOf (o, w) < S.1) (hw : w ≠ 0) (ha : m_ar o w = (0, len)) (h0 : 0 ≤ i) (h1 : i < len)
    (k : m_W G X Y S (m_up μ o w i.toNat (x)) (pc + 1) lv st) : m_W G X Y S μ pc lv (vI x :: vI i :: vR o w :: st) := by
  obtain ⟨p, l, e, R, s, m, args, below, meth, c, Qf⟩ := X
  obtain ⟨hx, hb, -, -, -, -, hown, hts, hK, -⟩ := C
  intro H locs ls hP hf hS hst hl
  have hcell := m_cell hP hE
  unfold m_at at hcell
  rw [if_neg hw, ha] at hcell
  have hi : in32 i := ok_hdI (ok_tl hst)
  refine W.iast hx hb hcell.1 ((hK.1.2 0 _ rfl).1 _ _) (fun q => by cases q) (by rw [arrV_size]; exact m_inr hi h0 h1) rfl rfl hd fun H1 e1 z1 o1 => ?_
  refine k H1 _ ls (hP.put hE z1 o1 ?_) (hf.putA hw (m_n4 ha (by decide))) (hS.put z1 o1 (m_A_ad hE hP.2.1)) (ok_tl (ok_tl (ok_tl hst))) hl
  unfold m_at
  rw [if_neg hw, ha]
  refine ⟨?_, fun q => ?_⟩
  · rw [e1, o32_cl hi, arrV_store]
    congr 2
    funext q
    by_cases hq : q = i.toNat
    · subst hq
      simp only [updV, if_true]
      rw [m_up_at]
      exact rfl
    · simp only [updV, if_neg hq]
      rw [m_up_ne _ _ (fun z => hq z.2.2)]
  · by_cases hq : q = i.toNat
    · subst hq
      rw [m_up_at]
      exact ok_hdI hst
    · rw [m_up_ne _ _ (fun z => hq z.2.2)]
      exact hcell.2 q
theorem m_bast (C : m_Cx G X Y d mc ms) {o w len : Nat} {i x : Int} (hd : decode Y.2.1 pc = .ok (.bastore, 1)) (hE : m_E.idxOf (o, w) < S.1) (hw : w ≠ 0) (ha : m_ar o w = (1, len)) (h0 : 0 ≤ i) (h1 : i < len)
    (k : m_W G X Y S (m_up μ o w i.toNat (i_b x)) (pc + 1) lv st) : m_W G X Y S μ pc lv (vI x :: vI i :: vR o w :: st) := by
  obtain ⟨p, l, e, R, s, m, args, below, meth, c, Qf⟩ := X
  obtain ⟨hx, hb, -, -, -, -, hown, hts, hK, -⟩ := C
  intro H locs ls hP hf hS hst hl
  have hcell := m_cell hP hE
  unfold m_at at hcell
  rw [if_neg hw, ha] at hcell
  have hi : in32 i := ok_hdI (ok_tl hst)
  refine W.bast hx hb hcell.1 ((hK.1.2 1 _ rfl).1 _ _) (fun q => by cases q) (by rw [arrV_size]; exact m_inr hi h0 h1) rfl rfl hd fun H1 e1 z1 o1 => ?_
  refine k H1 _ ls (hP.put hE z1 o1 ?_) (hf.putA hw (m_n4 ha (by decide))) (hS.put z1 o1 (m_A_ad hE hP.2.1)) (ok_tl (ok_tl (ok_tl hst))) hl
  unfold m_at
  rw [if_neg hw, ha]
  refine ⟨?_, fun q => ?_⟩
  · rw [e1, o32_cl hi, arrV_store]
    congr 2
    funext q
    by_cases hq : q = i.toNat
    · subst hq
      simp only [updV, if_true]
      rw [m_up_at]
      exact (by show Value.int _ = Value.int _; rw [i_b_def, Int32.ofInt_toInt])
    · simp only [updV, if_neg hq]
      rw [m_up_ne _ _ (fun z => hq z.2.2)]
  · by_cases hq : q = i.toNat
    · subst hq
      rw [m_up_at]
      exact i_b_in x
    · rw [m_up_ne _ _ (fun z => hq z.2.2)]
      exact hcell.2 q
theorem m_last (C : m_Cx G X Y d mc ms) {o w len : Nat} {i x : Int} (hd : decode Y.2.1 pc = .ok (.lastore, 1)) (hE : m_E.idxOf (o, w) < S.1) (hw : w ≠ 0) (ha : m_ar o w = (3, len)) (h0 : 0 ≤ i) (h1 : i < len)
    (k : m_W G X Y S (m_up μ o w i.toNat (x)) (pc + 1) lv st) : m_W G X Y S μ pc lv (vJ x :: vI i :: vR o w :: st) := by
  obtain ⟨p, l, e, R, s, m, args, below, meth, c, Qf⟩ := X
  obtain ⟨hx, hb, -, -, -, -, hown, hts, hK, -⟩ := C
  intro H locs ls hP hf hS hst hl
  have hcell := m_cell hP hE
  unfold m_at at hcell
  rw [if_neg hw, ha] at hcell
  have hi : in32 i := ok_hdI (ok_tl hst)
  refine W.last hx hb hcell.1 ((hK.1.2 3 _ rfl).1 _ _) (fun q => by cases q) (by rw [arrV_size]; exact m_inr hi h0 h1) rfl rfl hd fun H1 e1 z1 o1 => ?_
  refine k H1 _ ls (hP.put hE z1 o1 ?_) (hf.putA hw (m_n4 ha (by decide))) (hS.put z1 o1 (m_A_ad hE hP.2.1)) (ok_tl (ok_tl (ok_tl hst))) hl
  unfold m_at
  rw [if_neg hw, ha]
  refine ⟨?_, fun q => ?_⟩
  · rw [e1, o32_cl hi, arrV_store]
    congr 2
    funext q
    by_cases hq : q = i.toNat
    · subst hq
      simp only [updV, if_true]
      rw [m_up_at]
      exact rfl
    · simp only [updV, if_neg hq]
      rw [m_up_ne _ _ (fun z => hq z.2.2)]
  · by_cases hq : q = i.toNat
    · subst hq
      rw [m_up_at]
      exact ok_hdJ hst
    · rw [m_up_ne _ _ (fun z => hq z.2.2)]
      exact hcell.2 q
theorem m_zast (C : m_Cx G X Y d mc ms) {o w len : Nat} {i x : Int} (hd : decode Y.2.1 pc = .ok (.bastore, 1)) (hE : m_E.idxOf (o, w) < S.1) (hw : w ≠ 0) (ha : m_ar o w = (2, len)) (h0 : 0 ≤ i) (h1 : i < len) (hx01 : x = 0 ∨ x = 1)
    (k : m_W G X Y S (m_up μ o w i.toNat x) (pc + 1) lv st) : m_W G X Y S μ pc lv (vI x :: vI i :: vR o w :: st) := by
  obtain ⟨p, l, e, R, s, m, args, below, meth, c, Qf⟩ := X
  obtain ⟨hx, hb, -, -, -, -, hown, hts, hK, -⟩ := C
  intro H locs ls hP hf hS hst hl
  have hcell := m_cell hP hE
  unfold m_at at hcell
  rw [if_neg hw, ha] at hcell
  have hi : in32 i := ok_hdI (ok_tl hst)
  refine W.zast hx hb hcell.1 ((hK.1.2 2 _ rfl).1 _ _) (fun q => by cases q) (by rw [arrV_size]; exact m_inr hi h0 h1) rfl rfl hd fun H1 e1 z1 o1 => ?_
  refine k H1 _ ls (hP.put hE z1 o1 ?_) (hf.putA hw (m_n4 ha (by decide))) (hS.put z1 o1 (m_A_ad hE hP.2.1)) (ok_tl (ok_tl (ok_tl hst))) hl
  unfold m_at
  rw [if_neg hw, ha]
  refine ⟨?_, fun q => ?_⟩
  · rw [e1, o32_cl hi, arrV_store]
    congr 2
    funext q
    by_cases hq : q = i.toNat
    · subst hq
      simp only [updV, if_true]
      rw [m_up_at]
      rcases hx01 with h | h <;> subst h <;> rfl
    · simp only [updV, if_neg hq]
      rw [m_up_ne _ _ (fun z => hq z.2.2)]
  · by_cases hq : q = i.toNat
    · subst hq
      rw [m_up_at]
      rcases hx01 with h | h <;> subst h <;> exact (by show (-128 : Int) ≤ _ ∧ _ ≤ (127 : Int); omega)
    · rw [m_up_ne _ _ (fun z => hq z.2.2)]
      exact hcell.2 q
/-- a row of objects is read -/
theorem m_aald (C : m_Cx G X Y d mc ms) {o w len t u : Nat} {i : Int} (hd : decode Y.2.1 pc = .ok (.aaload, 1)) (hE : m_E.idxOf (o, w) < S.1) (hw : w ≠ 0) (ha : m_ar o w = (4, len)) (h0 : 0 ≤ i) (h1 : i < len) (hx : μ o w i.toNat = 100 * (t : Int) + (u : Int)) (hu : u < 100) (ht : t ≠ 0)
    (k : m_W G X Y S μ (pc + 1) lv (vR t u :: st)) : m_W G X Y S μ pc lv (vI i :: vR o w :: st) := by
  obtain ⟨p, l, e, R, s, m, args, below, meth, c, Qf⟩ := X
  obtain ⟨hxx, hb, -, -, -, -, hown, hts, hK, -⟩ := C
  intro H locs ls hP hf hS hst hl
  have hcell := m_cell hP hE
  unfold m_at at hcell
  rw [if_neg hw, ha] at hcell
  have hi : in32 i := ok_hdI hst
  refine W.aald (v := .ref (m_ad G (t, u))) (ty := .object "KilnBench$Bench") hxx hb hcell.1 ((hK.1.2 4 _ rfl).1 _ _) rfl (fun q => by cases q) (by rw [arrV_size]; exact m_inr hi h0 h1) (by rw [o32_cl hi, arrV_read _ _ (by omega)]; show some (m_rf G _) = _; rw [m_rf_of G hx hu ht]) rfl rfl hd ?_
  exact k H locs ls hP hf hS (ok_cs (a := vR t u) trivial (ok_tl (ok_tl hst))) hl
/-- the letters' worth, and the script -/
theorem m_getLW (C : m_Cx G X Y d mc ms) {idx : Nat} (hd : decode Y.2.1 pc = .ok (.getstatic idx, 3)) (hw : Cond.fieldLink Y.1.cls idx "KilnBench" "LETTER_WORTH" "[I" ∈ m_w ∨ Cond.fieldLinkNest Y.1.cls idx "KilnBench" "LETTER_WORTH" "[I" "KilnBench" ∈ m_nest)
    (k : m_W G X Y S μ (pc + 3) lv (vR 0 1 :: st)) : m_W G X Y S μ pc lv st := by
  obtain ⟨p, l, e, R, s, m, args, below, meth, c, Qf⟩ := X
  obtain ⟨hxx, hb, -, -, -, -, hown, hts, hK, -⟩ := C
  intro H locs ls hP hf hS hst hl
  have kk := k H locs ls hP hf hS (ok_cs (a := vR 0 1) trivial hst) hl
  rcases hw with hw | hw
  · exact va_gets hxx hb hK.2.2.2.1 hS hown (hts _ hw) (fun _ h => h) hd kk
  · exact va_getsN hxx hb hK.2.2.2.1 hS hown ((hK.2.1 _ hw).use rfl) (fun _ h => h) hd kk
theorem m_ldLW (C : m_Cx G X Y d mc ms) {i : Int} (hd : decode Y.2.1 pc = .ok (.iaload, 1)) (h0 : 0 ≤ i) (h1 : i < 6)
    (k : m_W G X Y S μ (pc + 1) lv (vI (m_lwL.getD i.toNat 0).toInt :: st)) : m_W G X Y S μ pc lv (vI i :: vR 0 1 :: st) := by
  obtain ⟨p, l, e, R, s, m, args, below, meth, c, Qf⟩ := X
  obtain ⟨hxx, hb, -, -, -, -, hown, hts, hK, -⟩ := C
  intro H locs ls hP hf hS hst hl
  have hi : in32 i := ok_hdI hst
  have kk := k H locs ls hP hf hS (ok_csI (in32_t _) (ok_tl (ok_tl hst))) hl
  refine va_ti hxx hb hK.2.2.2.2.1 hS (m_inr (n := 6) hi h0 (by omega)) (v := .int (m_lwL.getD i.toNat 0)) (by rw [o32_cl hi]) hd ?_
  rw [← Int32.ofInt_toInt (m_lwL.getD i.toNat 0)]
  exact kk
theorem m_ldS (C : m_Cx G X Y d mc ms) {i : Int} (hd : decode Y.2.1 pc = .ok (.iaload, 1)) (h0 : 0 ≤ i) (h1 : i < G.2.2.2.1.2.1)
    (k : m_W G X Y S μ (pc + 1) lv (vI (G.2.2.2.1.2.2 i.toNat).toInt :: st)) : m_W G X Y S μ pc lv (vI i :: vR 0 2 :: st) := by
  obtain ⟨p, l, e, R, s, m, args, below, meth, c, Qf⟩ := X
  obtain ⟨hxx, hb, -, -, -, -, hown, hts, hK, -⟩ := C
  intro H locs ls hP hf hS hst hl
  have hi : in32 i := ok_hdI hst
  have kk := k H locs ls hP hf hS (ok_csI (in32_t _) (ok_tl (ok_tl hst))) hl
  refine va_sld hxx hb hK.2.2.2.2.2.1 (Nat.lt_of_lt_of_le hK.2.2.2.2.2.2.1 hK.2.2.2.2.2.2.2.1) (Nat.not_le.mpr hK.2.2.2.2.2.2.1) hS (m_inr hi h0 h1) hd ?_
  rw [o32_cl hi, ← Int32.ofInt_toInt (G.2.2.2.1.2.2 i.toNat)]
  exact kk
theorem m_lenS (C : m_Cx G X Y d mc ms) (hd : decode Y.2.1 pc = .ok (.arraylength, 1)) (hL : G.2.2.2.1.2.1 < 2147483648)
    (k : m_W G X Y S μ (pc + 1) lv (vI (G.2.2.2.1.2.1 : Int) :: st)) : m_W G X Y S μ pc lv (vR 0 2 :: st) := by
  obtain ⟨p, l, e, R, s, m, args, below, meth, c, Qf⟩ := X
  obtain ⟨hxx, hb, -, -, -, -, hown, hts, hK, -⟩ := C
  intro H locs ls hP hf hS hst hl
  have kk := k H locs ls hP hf hS (ok_csI (by unfold in32; omega) (ok_tl hst)) hl
  refine va_slen hxx hb hK.2.2.2.2.2.1 (Nat.lt_of_lt_of_le hK.2.2.2.2.2.2.1 hK.2.2.2.2.2.2.2.1) (Nat.not_le.mpr hK.2.2.2.2.2.2.1) hS hd ?_
  rw [← Int32.ofInt_eq_ofNat]
  exact kk
end MHP
