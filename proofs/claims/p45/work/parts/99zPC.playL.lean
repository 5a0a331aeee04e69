/-! The law's plays: its loops. -/
def PMm (C0 : LMem) (re rf rg rn rr rp rb : Nat) (E F G N R P B : Nat → Int) : LMem := fun k => if k = re then (1, 24, E) else if k = rf then (1, 24, F) else if k = rg then (1, 24, G) else if k = rn then (1, 2000, N) else if k = rr then (1, 24, R) else if k = rp then (1, 24, P) else if k = rb then (3, 24, B) else C0 k
def PD (r0 re rf rg rn rr rp rb : Nat) : Prop := (r0 ≠ re ∧ r0 ≠ rf ∧ r0 ≠ rg ∧ r0 ≠ rn ∧ r0 ≠ rr ∧ r0 ≠ rp ∧ r0 ≠ rb) ∧ re ≠ rf ∧ re ≠ rg ∧ re ≠ rn ∧ re ≠ rr ∧ re ≠ rp ∧ re ≠ rb ∧ rf ≠ rg ∧ rf ≠ rn ∧ rf ≠ rr ∧ rf ≠ rp ∧ rf ≠ rb ∧ rg ≠ rn ∧ rg ≠ rr ∧ rg ≠ rp ∧ rg ≠ rb ∧ rn ≠ rr ∧ rn ≠ rp ∧ rn ≠ rb ∧ rr ≠ rp ∧ rr ≠ rb ∧ rp ≠ rb
section PMS
variable {C0 : LMem} {r0 re rf rg rn rr rp rb : Nat} {E F G N R P B : Nat → Int}
theorem m_re (h : PD r0 re rf rg rn rr rp rb) : PMm C0 re rf rg rn rr rp rb E F G N R P B re = (1, 24, E) := by
  unfold PMm
  rw [if_pos rfl]
theorem m_rf (h : PD r0 re rf rg rn rr rp rb) : PMm C0 re rf rg rn rr rp rb E F G N R P B rf = (1, 24, F) := by
  unfold PMm
  rw [if_neg (Ne.symm (h.2.1)), if_pos rfl]
theorem m_rg (h : PD r0 re rf rg rn rr rp rb) : PMm C0 re rf rg rn rr rp rb E F G N R P B rg = (1, 24, G) := by
  unfold PMm
  rw [if_neg (Ne.symm (h.2.2.1)), if_neg (Ne.symm (h.2.2.2.2.2.2.2.1)), if_pos rfl]
theorem m_rn (h : PD r0 re rf rg rn rr rp rb) : PMm C0 re rf rg rn rr rp rb E F G N R P B rn = (1, 2000, N) := by
  unfold PMm
  rw [if_neg (Ne.symm (h.2.2.2.1)), if_neg (Ne.symm (h.2.2.2.2.2.2.2.2.1)), if_neg (Ne.symm (h.2.2.2.2.2.2.2.2.2.2.2.2.1)), if_pos rfl]
theorem m_rr (h : PD r0 re rf rg rn rr rp rb) : PMm C0 re rf rg rn rr rp rb E F G N R P B rr = (1, 24, R) := by
  unfold PMm
  rw [if_neg (Ne.symm (h.2.2.2.2.1)), if_neg (Ne.symm (h.2.2.2.2.2.2.2.2.2.1)), if_neg (Ne.symm (h.2.2.2.2.2.2.2.2.2.2.2.2.2.1)), if_neg (Ne.symm (h.2.2.2.2.2.2.2.2.2.2.2.2.2.2.2.2.1)), if_pos rfl]
theorem m_rp (h : PD r0 re rf rg rn rr rp rb) : PMm C0 re rf rg rn rr rp rb E F G N R P B rp = (1, 24, P) := by
  unfold PMm
  rw [if_neg (Ne.symm (h.2.2.2.2.2.1)), if_neg (Ne.symm (h.2.2.2.2.2.2.2.2.2.2.1)), if_neg (Ne.symm (h.2.2.2.2.2.2.2.2.2.2.2.2.2.2.1)), if_neg (Ne.symm (h.2.2.2.2.2.2.2.2.2.2.2.2.2.2.2.2.2.1)), if_neg (Ne.symm (h.2.2.2.2.2.2.2.2.2.2.2.2.2.2.2.2.2.2.2.1)), if_pos rfl]
theorem m_rb (h : PD r0 re rf rg rn rr rp rb) : PMm C0 re rf rg rn rr rp rb E F G N R P B rb = (3, 24, B) := by
  unfold PMm
  rw [if_neg (Ne.symm (h.2.2.2.2.2.2.1)), if_neg (Ne.symm (h.2.2.2.2.2.2.2.2.2.2.2.1)), if_neg (Ne.symm (h.2.2.2.2.2.2.2.2.2.2.2.2.2.2.2.1)), if_neg (Ne.symm (h.2.2.2.2.2.2.2.2.2.2.2.2.2.2.2.2.2.2.1)), if_neg (Ne.symm (h.2.2.2.2.2.2.2.2.2.2.2.2.2.2.2.2.2.2.2.2.1)), if_neg (Ne.symm (h.2.2.2.2.2.2.2.2.2.2.2.2.2.2.2.2.2.2.2.2.2)), if_pos rfl]
theorem m_r0 (h : PD r0 re rf rg rn rr rp rb) : PMm C0 re rf rg rn rr rp rb E F G N R P B r0 = C0 r0 := by
  unfold PMm
  rw [if_neg h.1.1, if_neg h.1.2.1, if_neg h.1.2.2.1, if_neg h.1.2.2.2.1, if_neg h.1.2.2.2.2.1, if_neg h.1.2.2.2.2.2.1, if_neg h.1.2.2.2.2.2.2]
theorem u_re (h : PD r0 re rf rg rn rr rp rb) {i : Nat} {v : Int} : cup (PMm C0 re rf rg rn rr rp rb E F G N R P B) re i v = PMm C0 re rf rg rn rr rp rb (sr E i v) F G N R P B := by
  rw [cup_of (m_re h)]
  funext k
  by_cases e : k = re
  · rw [e, cst_self, m_re (r0 := r0) h]
  · rw [cst_ne e]
    unfold PMm
    simp only [if_neg e]
theorem u_rf (h : PD r0 re rf rg rn rr rp rb) {i : Nat} {v : Int} : cup (PMm C0 re rf rg rn rr rp rb E F G N R P B) rf i v = PMm C0 re rf rg rn rr rp rb E (sr F i v) G N R P B := by
  rw [cup_of (m_rf h)]
  funext k
  by_cases e : k = rf
  · rw [e, cst_self, m_rf (r0 := r0) h]
  · rw [cst_ne e]
    unfold PMm
    simp only [if_neg e]
theorem u_rg (h : PD r0 re rf rg rn rr rp rb) {i : Nat} {v : Int} : cup (PMm C0 re rf rg rn rr rp rb E F G N R P B) rg i v = PMm C0 re rf rg rn rr rp rb E F (sr G i v) N R P B := by
  rw [cup_of (m_rg h)]
  funext k
  by_cases e : k = rg
  · rw [e, cst_self, m_rg (r0 := r0) h]
  · rw [cst_ne e]
    unfold PMm
    simp only [if_neg e]
theorem u_rn (h : PD r0 re rf rg rn rr rp rb) {i : Nat} {v : Int} : cup (PMm C0 re rf rg rn rr rp rb E F G N R P B) rn i v = PMm C0 re rf rg rn rr rp rb E F G (sr N i v) R P B := by
  rw [cup_of (m_rn h)]
  funext k
  by_cases e : k = rn
  · rw [e, cst_self, m_rn (r0 := r0) h]
  · rw [cst_ne e]
    unfold PMm
    simp only [if_neg e]
theorem u_rr (h : PD r0 re rf rg rn rr rp rb) {i : Nat} {v : Int} : cup (PMm C0 re rf rg rn rr rp rb E F G N R P B) rr i v = PMm C0 re rf rg rn rr rp rb E F G N (sr R i v) P B := by
  rw [cup_of (m_rr h)]
  funext k
  by_cases e : k = rr
  · rw [e, cst_self, m_rr (r0 := r0) h]
  · rw [cst_ne e]
    unfold PMm
    simp only [if_neg e]
theorem u_rp (h : PD r0 re rf rg rn rr rp rb) {i : Nat} {v : Int} : cup (PMm C0 re rf rg rn rr rp rb E F G N R P B) rp i v = PMm C0 re rf rg rn rr rp rb E F G N R (sr P i v) B := by
  rw [cup_of (m_rp h)]
  funext k
  by_cases e : k = rp
  · rw [e, cst_self, m_rp (r0 := r0) h]
  · rw [cst_ne e]
    unfold PMm
    simp only [if_neg e]
theorem u_rb (h : PD r0 re rf rg rn rr rp rb) {i : Nat} {v : Int} : cup (PMm C0 re rf rg rn rr rp rb E F G N R P B) rb i v = PMm C0 re rf rg rn rr rp rb E F G N R P (sr B i v) := by
  rw [cup_of (m_rb h)]
  funext k
  by_cases e : k = rb
  · rw [e, cst_self, m_rb (r0 := r0) h]
  · rw [cst_ne e]
    unfold PMm
    simp only [if_neg e]
theorem m_off {k : Nat} (h : k ≠ re ∧ k ≠ rf ∧ k ≠ rg ∧ k ≠ rn ∧ k ≠ rr ∧ k ≠ rp ∧ k ≠ rb) : PMm C0 re rf rg rn rr rp rb E F G N R P B k = C0 k := by
  unfold PMm
  rw [if_neg h.1, if_neg h.2.1, if_neg h.2.2.1, if_neg h.2.2.2.1, if_neg h.2.2.2.2.1, if_neg h.2.2.2.2.2.1, if_neg h.2.2.2.2.2.2]
end PMS
section PL
variable {d kc : Nat} {Q : LQ} {M : Mem} {C0 : LMem} {r0 re rf rg rn rr rp rb n : Nat} {J fj : Nat → Int} {many by_ space wait : Int}
theorem pl_17 (hD : PD r0 re rf rg rn rr rp rb) (h0 : C0 r0 = (1, 120, fj)) (hn : n ≤ 24) (hj : ∀ i, i < 4 * n → fj i = J i) {F N P B : Nat → Int} {o17 o18 o19 o20 o21 o22 o23 o24 : Option PV}
    (hQ : ∀ E G R : Nat → Int, (∀ i, i < n → E i = -1 ∧ G i = -1 ∧ R i = J (4 * i + 1)) → L_W_plays_42 d Q M (PMm C0 re rf rg rn rr rp rb E F G N R P B) kc r0 (n : Int) many by_ space wait re rf rg rn rr rp rb 0 (n : Int) 0 0 o17 o18 o19 o20 o21 o22 o23 o24) :
    ∀ (m k : Nat) (E G R : Nat → Int), k + m = n → (∀ i, i < k → E i = -1 ∧ G i = -1 ∧ R i = J (4 * i + 1)) → L_W_plays_17 d Q M (PMm C0 re rf rg rn rr rp rb E F G N R P B) kc r0 (n : Int) many by_ space wait re rf rg rn rr rp rb 0 (n : Int) 0 (k : Int) o17 o18 o19 o20 o21 o22 o23 o24
  | 0, k, E, G, R, hk, h => by
    have e : k = n := by omega
    subst e
    exact b_W_plays_17 ⟨⟨by omega, by omega⟩, ⟨by omega, by omega⟩, fun _ => hQ E G R h, fun z => absurd (Int.le_refl _) z⟩
  | m + 1, k, E, G, R, hk, h => by
    refine b_W_plays_17 ⟨⟨by omega, by omega⟩, ⟨by omega, by omega⟩, fun z => absurd z (by omega), fun _ => ?_⟩
    simp only [m_r0 hD, m_re hD, m_rf hD, m_rg hD, m_rn hD, m_rr hD, m_rp hD, m_rb hD, u_re hD, u_rf hD, u_rg hD, u_rn hD, u_rr hD, u_rp hD, u_rb hD, h0, Int.toNat_natCast, sr_same]
    rw [show (4 * (k : Int) + 1).toNat = 4 * k + 1 by omega, hj _ (by omega)]
    refine ⟨trivial, ⟨by omega, by omega⟩, trivial, ⟨by omega, by omega⟩, trivial, ⟨by omega, by omega⟩, trivial, ⟨by omega, by omega⟩, ?_⟩
    refine pl_17 hD h0 hn hj hQ m (k + 1) (sr E k (-1)) (sr G k (-1)) (sr R k (J (4 * k + 1))) (by omega) fun i hi => ?_
    by_cases e : i = k
    · subst e
      rw [sr_same, sr_same, sr_same]
      exact ⟨rfl, rfl, rfl⟩
    · rw [sr_ne e, sr_ne e, sr_ne e]
      exact h i (by omega)
theorem mem_go {wait t : Int} {x : SG} {i : Nat} : i ∈ (sGo J wait t x).1 ++ (sGo J wait t x).2.1 ↔ (i ∈ x.1 ∧ gonD J wait t x.2.2.2 i = false) ∨ i ∈ x.2.1 := by
  rw [List.mem_append]
  show i ∈ x.1.filter (fun j => !gonD J wait t x.2.2.2 j) ∨ i ∈ x.2.1 ↔ _
  rw [List.mem_filter]
  simp
def thr (J : Nat → Int) (wait t : Int) (x : SG) : Nat → Int := sumN (fun i => if i ∈ (sGo J wait t x).1 ++ (sGo J wait t x).2.1 then 1 else 0)
theorem thr_s {t : Int} {x : SG} {k : Nat} : thr J wait t x (k + 1) = thr J wait t x k + if k ∈ (sGo J wait t x).1 ++ (sGo J wait t x).2.1 then 1 else 0 := rfl
theorem pl_48 (hD : PD r0 re rf rg rn rr rp rb) (h0 : C0 r0 = (1, 120, fj)) (hV : VJ n J) (hj : ∀ i, i < 4 * n → fj i = J i) (hw : 1 ≤ wait ∧ wait ≤ 5000) {t : Nat} (ht : t ≤ 1500) {x : SG} (hp : PVi n many t x) (hlo : ∀ k, k < x.2.2.1 → J (4 * k) < t) (hhi : ∀ k, k < n → x.2.2.1 ≤ k → t ≤ J (4 * k)) {E F G N R P B : Nat → Int} {st i15 : Int} (hR : PRl n J [] x E F G R P B st)
    (hQ : ∀ (E1 F1 : Nat → Int) (o19 o20 o21 o22 o23 o24 : Option PV), PRl n J [] (sGo J wait t x) E1 F1 G R P B st → L_W_plays_91 d Q M (PMm C0 re rf rg rn rr rp rb E1 F1 G N R P B) kc r0 (n : Int) many by_ space wait re rf rg rn rr rp rb st (cntE E1 n) i15 (t : Int) (sNum (sGo J wait t x)) 0 o19 o20 o21 o22 o23 o24) :
    ∀ (m k : Nat) (E1 F1 : Nat → Int) (o19 o20 o21 o22 o23 o24 : Option PV), k + m = n → (∀ i, i < n → E1 i = if i < k ∧ (i ∈ x.1 ∧ gonD J wait t x.2.2.2 i = true) then 1 else E i) → (∀ i, i < n → F1 i = if i < k ∧ (i ∈ x.1 ∧ gonD J wait t x.2.2.2 i = true) then (t : Int) else F i) → L_W_plays_48 d Q M (PMm C0 re rf rg rn rr rp rb E1 F1 G N R P B) kc r0 (n : Int) many by_ space wait re rf rg rn rr rp rb st (cntE E1 n) i15 (t : Int) (thr J wait t x k) (k : Int) o19 o20 o21 o22 o23 o24
  | 0, k, E1, F1, o19, o20, o21, o22, o23, o24, hk, hE, hF => by
    have e : k = n := by omega
    subst e
    have h24 := hV.1
    have hth : thr J wait t x k = sNum (sGo J wait t x) := by
      have hg := sGo_pvi (J := J) (wait := wait) (by omega) hp
      unfold thr sNum
      rw [sumN_ind _ k hg.2.1 (fun j hj9 => by have := hg.2.2.1 j hj9; have := hg.1; omega), List.length_append]
      omega
    refine b_W_plays_48 ⟨⟨by omega, by omega⟩, ⟨by omega, by omega⟩, fun _ => ?_, fun z => absurd (Int.le_refl _) z⟩
    rw [hth]
    refine hQ E1 F1 _ _ _ _ _ _ (rel_go hp hR (fun i hi => ?_) (fun i hi => ?_))
    · rw [hE i hi]
      by_cases q : i ∈ x.1 ∧ gonD J wait t x.2.2.2 i = true
      · rw [if_pos ⟨hi, q⟩, if_pos q]
      · rw [if_neg (fun z => q z.2), if_neg q]
    · rw [hF i hi]
      by_cases q : i ∈ x.1 ∧ gonD J wait t x.2.2.2 i = true
      · rw [if_pos ⟨hi, q⟩, if_pos q]
      · rw [if_neg (fun z => q z.2), if_neg q]
  | m + 1, k, E1, F1, o19, o20, o21, o22, o23, o24, hk, hE, hF => by
    have h24 := hV.1
    obtain ⟨jb, -⟩ := hV.2.1 k (by omega)
    obtain ⟨h1, h2, h3, h4, h5, h6, h7⟩ := hR
    obtain ⟨p1, p2, p3, p4, p5, p6, p7, p8, p9⟩ := hp
    have hE1k : E1 k = E k := by rw [hE k (by omega), if_neg (fun z => absurd z.1 (by omega))]
    have ih := fun (E2 F2 : Nat → Int) (o19 o20 o21 o22 o23 o24 : Option PV) => pl_48 hD h0 hV hj hw ht ⟨p1, p2, p3, p4, p5, p6, p7, p8, p9⟩ hlo hhi ⟨h1, h2, h3, h4, h5, h6, h7⟩ hQ m (k + 1) E2 F2 o19 o20 o21 o22 o23 o24 (by omega)
    have hsame : (¬ (k ∈ x.1 ∧ gonD J wait t x.2.2.2 k = true)) → (∀ i, i < n → E1 i = if i < k + 1 ∧ (i ∈ x.1 ∧ gonD J wait t x.2.2.2 i = true) then 1 else E i) ∧ (∀ i, i < n → F1 i = if i < k + 1 ∧ (i ∈ x.1 ∧ gonD J wait t x.2.2.2 i = true) then (t : Int) else F i) := fun hn => by
      refine ⟨fun i hi => ?_, fun i hi => ?_⟩
      · rw [hE i hi]
        by_cases q : i < k ∧ (i ∈ x.1 ∧ gonD J wait t x.2.2.2 i = true)
        · rw [if_pos q, if_pos ⟨by omega, q.2⟩]
        · rw [if_neg q, if_neg (fun z => by
            by_cases e : i = k
            · subst e; exact hn z.2
            · exact q ⟨by omega, z.2⟩)]
      · rw [hF i hi]
        by_cases q : i < k ∧ (i ∈ x.1 ∧ gonD J wait t x.2.2.2 i = true)
        · rw [if_pos q, if_pos ⟨by omega, q.2⟩]
        · rw [if_neg q, if_neg (fun z => by
            by_cases e : i = k
            · subst e; exact hn z.2
            · exact q ⟨by omega, z.2⟩)]
    refine b_W_plays_48 ⟨⟨by omega, by omega⟩, ⟨by omega, by omega⟩, fun z => absurd z (by omega), fun _ => ?_⟩
    simp only [m_r0 hD, m_re hD, m_rf hD, m_rg hD, m_rn hD, m_rr hD, m_rp hD, m_rb hD, u_re hD, u_rf hD, u_rg hD, u_rn hD, u_rr hD, u_rp hD, u_rb hD, h0, Int.toNat_natCast, sr_same]
    rw [show (4 * (k : Int)).toNat = 4 * k by omega, hj _ (by omega), hE1k]
    have tin : k ∈ (sGo J wait t x).1 ++ (sGo J wait t x).2.1 → thr J wait t x (k + 1) = thr J wait t x k + 1 := fun q => by rw [thr_s, if_pos q]
    have tout : k ∉ (sGo J wait t x).1 ++ (sGo J wait t x).2.1 → thr J wait t x (k + 1) = thr J wait t x k := fun q => by rw [thr_s, if_neg q]; omega
    refine ⟨trivial, ⟨by omega, by omega⟩, ⟨by omega, by omega⟩, ⟨by omega, by omega⟩, fun z => ?_, fun z => ?_⟩
    · have hnx : ¬ k < x.2.2.1 := fun w => by have := hlo k w; omega
      have hno : k ∉ x.1 := fun w => hnx (p3 k (List.mem_append_left _ w))
      obtain ⟨a, b⟩ := hsame (fun w => hno w.1)
      have := ih E1 F1 o19 o20 o21 o22 o23 o24 a b
      rw [tout (fun w => (mem_go.mp w).elim (fun y => hno y.1) (fun y => hnx (p3 k (List.mem_append_right _ y))))] at this
      exact this
    · have hnx : k < x.2.2.1 := by
        by_cases w : k < x.2.2.1
        · exact w
        · exact absurd (hhi k (by omega) (by omega)) z
      have hE9 := h1 k (by omega)
      have hG9 := h2 k (by omega)
      rw [if_pos hnx] at hG9
      have p5k := p5 k hnx
      have hEr : -1 ≤ E k ∧ E k ≤ 3 := by
        rw [hE9]; split <;> omega
      refine ⟨trivial, ⟨by omega, by omega⟩, ⟨by omega, by omega⟩, fun z1 => ?_, fun z1 => ?_⟩
      · have h3k : x.2.2.2 0 k = 3 := by
          by_cases w : x.2.2.2 0 k = 3
          · exact w
          · rw [if_pos ⟨hnx, w⟩] at hE9
            omega
        have hin := p5k.1.mp h3k
        refine ⟨trivial, ⟨by omega, by omega⟩, ⟨by omega, by omega⟩, fun z2 => ?_, fun z2 => ⟨⟨by omega, by omega⟩, ⟨by omega, by omega⟩, fun z3 => ?_, fun z3 => ⟨trivial, ⟨by omega, by omega⟩, ?_⟩⟩⟩
        · have hg : gonD J wait t x.2.2.2 k = false := by
            unfold gonD
            exact decide_eq_false (fun w => by omega)
          obtain ⟨a, b⟩ := hsame (fun w => by rw [hg] at w; exact absurd w.2 (by decide))
          have := ih E1 F1 o19 o20 o21 o22 o23 o24 a b
          rw [tin (mem_go.mpr ((List.mem_append.mp hin).elim (fun y => Or.inl ⟨y, hg⟩) Or.inr))] at this
          exact this
        · have hg : gonD J wait t x.2.2.2 k = false := by
            unfold gonD
            exact decide_eq_false (fun w => by omega)
          obtain ⟨a, b⟩ := hsame (fun w => by rw [hg] at w; exact absurd w.2 (by decide))
          have := ih E1 F1 o19 o20 o21 o22 o23 o24 a b
          rw [tin (mem_go.mpr ((List.mem_append.mp hin).elim (fun y => Or.inl ⟨y, hg⟩) Or.inr))] at this
          exact this
        · have hsv : k ∉ x.2.1 := fun w => absurd (p7 k w) (by omega)
          have hrow : k ∈ x.1 := (List.mem_append.mp hin).elim id (fun w => absurd w hsv)
          have hg : gonD J wait t x.2.2.2 k = true := by
            unfold gonD
            exact decide_eq_true ⟨by omega, by omega⟩
          have := ih (sr E1 k 1) (sr F1 k t) o19 o20 o21 o22 o23 o24 (fun i hi => by
            by_cases e : i = k
            · subst e
              rw [sr_same, if_pos ⟨by omega, hrow, hg⟩]
            · rw [sr_ne e, hE i hi]
              by_cases q : i < k ∧ (i ∈ x.1 ∧ gonD J wait t x.2.2.2 i = true)
              · rw [if_pos q, if_pos ⟨by omega, q.2⟩]
              · rw [if_neg q, if_neg (fun w => q ⟨by omega, w.2⟩)]) (fun i hi => by
            by_cases e : i = k
            · subst e
              rw [sr_same, if_pos ⟨by omega, hrow, hg⟩]
            · rw [sr_ne e, hF i hi]
              by_cases q : i < k ∧ (i ∈ x.1 ∧ gonD J wait t x.2.2.2 i = true)
              · rw [if_pos q, if_pos ⟨by omega, q.2⟩]
              · rw [if_neg q, if_neg (fun w => q ⟨by omega, w.2⟩)])
          rw [tout (fun w => (mem_go.mp w).elim (fun y => by rw [hg] at y; exact absurd y.2 (by decide)) hsv), cntE_sr (by omega) (by rw [hE1k]; exact z1) (by decide)] at this
          exact this
      · have h3k : x.2.2.2 0 k ≠ 3 := fun w => by
          rw [if_neg (fun y => y.2 w)] at hE9
          omega
        have hno : k ∉ x.1 ++ x.2.1 := fun w => h3k (p5k.1.mpr w)
        obtain ⟨a, b⟩ := hsame (fun w => hno (List.mem_append_left _ w.1))
        have := ih E1 F1 o19 o20 o21 o22 o23 o24 a b
        rw [tout (fun w => (mem_go.mp w).elim (fun y => hno (List.mem_append_left _ y.1)) (fun y => hno (List.mem_append_right _ y)))] at this
        exact this

theorem pl_91 (hD : PD r0 re rf rg rn rr rp rb) (h0 : C0 r0 = (1, 120, fj)) (hV : VJ n J) (hj : ∀ i, i < 4 * n → fj i = J i) (hm : 1 ≤ many ∧ many ≤ 4) (hs : 0 ≤ space ∧ space ≤ 24) {t : Nat} (ht : t ≤ 1500) {G N R B : Nat → Int} {i15 : Int} {z9 : SG} {st9 : Int}
    (hQ : ∀ (E F P : Nat → Int) (st : Int) (o20 o21 o22 o23 o24 : Option PV), PVi n many t z9 → PRl n J [] z9 E F G R P B st → (0 ≤ st ∧ st ≤ st9) → L_W_plays_133 d Q M (PMm C0 re rf rg rn rr rp rb E F G (sr N t (sNum z9)) R P B) kc r0 (n : Int) many by_ space wait re rf rg rn rr rp rb st (cntE E n) i15 (t : Int) (some (.inl (sNum z9))) 0 0 o20 o21 o22 o23 o24) :
    ∀ (m k f : Nat) (y : SG) (E F P : Nat → Int) (st : Int) (o19 o20 o21 o22 o23 o24 : Option PV), k + m = n → PVi n many t y → PRl n J [] y E F G R P B st → sIn n J (many + space) t f y = z9 → n ≤ y.2.2.1 + f → (k ≤ y.2.2.1 ∨ ¬ (y.2.2.1 < n ∧ J (4 * y.2.2.1) ≤ t)) → (∀ i, k ≤ i → i < y.2.2.1 → J (4 * i) < t) → (∀ i, i < n → y.2.2.1 ≤ i → t ≤ J (4 * i)) → (0 ≤ st ∧ st + m ≤ st9) →
      L_W_plays_91 d Q M (PMm C0 re rf rg rn rr rp rb E F G N R P B) kc r0 (n : Int) many by_ space wait re rf rg rn rr rp rb st (cntE E n) i15 (t : Int) (sNum y) (k : Int) o19 o20 o21 o22 o23 o24
  | 0, k, f, y, E, F, P, st, o19, o20, o21, o22, o23, o24, hk, hp, hR, hz, hf, ha, hb, hc, hst => by
    have e : k = n := by omega
    subst e
    have h24 := hV.1
    have hfin : ¬ (y.2.2.1 < k ∧ J (4 * y.2.2.1) ≤ t) := ha.elim (fun w z => absurd z.1 (by omega)) id
    have hy : y = z9 := by
      rw [← hz]
      cases f with
      | zero => rfl
      | succ f => exact (if_neg hfin).symm
    subst hy
    refine b_W_plays_91 ⟨⟨by omega, by omega⟩, ⟨by omega, by omega⟩, fun _ => ?_, fun z => absurd (Int.le_refl _) z⟩
    simp only [m_r0 hD, m_re hD, m_rf hD, m_rg hD, m_rn hD, m_rr hD, m_rp hD, m_rb hD, u_re hD, u_rf hD, u_rg hD, u_rn hD, u_rr hD, u_rp hD, u_rb hD, h0, Int.toNat_natCast, sr_same]
    exact ⟨trivial, ⟨by omega, by omega⟩, hQ E F P st _ _ _ _ _ hp hR ⟨hst.1, by omega⟩⟩
  | m + 1, k, f, y, E, F, P, st, o19, o20, o21, o22, o23, o24, hk, hp, hR, hz, hf, ha, hb, hc, hst => by
    have h24 := hV.1
    obtain ⟨jb, -⟩ := hV.2.1 k (by omega)
    have hl := hp.2.2.2.2.2.2.2.1
    have hnx := hp.1
    refine b_W_plays_91 ⟨⟨by omega, by omega⟩, ⟨by omega, by omega⟩, fun z => absurd z (by omega), fun _ => ?_⟩
    simp only [m_r0 hD, m_re hD, m_rf hD, m_rg hD, m_rn hD, m_rr hD, m_rp hD, m_rb hD, u_re hD, u_rf hD, u_rg hD, u_rn hD, u_rr hD, u_rp hD, u_rb hD, h0, Int.toNat_natCast, sr_same]
    rw [show (4 * (k : Int)).toNat = 4 * k by omega, hj _ (by omega)]
    refine ⟨trivial, ⟨by omega, by omega⟩, ⟨by omega, by omega⟩, ⟨by omega, by omega⟩, fun z => ?_, fun z => ?_⟩
    · have hky : ¬ k < y.2.2.1 := fun w => by have := hb k (Nat.le_refl _) w; omega
      have e : k = y.2.2.1 := by
        rcases ha with w | w
        · omega
        · exfalso
          apply w
          refine ⟨by omega, ?_⟩
          have := VJ.le hV (i := y.2.2.1) (k := k) (by omega) (by omega)
          omega
      obtain ⟨f9, rfl⟩ : ∃ f9, f = f9 + 1 := ⟨f - 1, by omega⟩
      have hcond : y.2.2.1 < n ∧ J (4 * y.2.2.1) ≤ t := by rw [← e]; exact ⟨by omega, by omega⟩
      have hz1 : sIn n J (many + space) t f9 (sIn1 J (many + space) t y) = z9 := by
        rw [← hz]
        exact (if_pos hcond).symm
      have hp1 := sIn1_pvi (cap := many + space) (by omega) hV hp hcond.1
      obtain ⟨r1, r2⟩ := rel_in (t := (t : Int)) (cap := many + space) hp hR hcond.1 hst.1
      have hsN : sNum y = (y.1.length : Int) + y.2.1.length := rfl
      have hEk : E y.2.2.1 = -1 := by rw [hR.1 _ hcond.1, if_neg (fun w => absurd w.1 (by omega))]
      have hn1 : (sIn1 J (many + space) t y).2.2.1 = y.2.2.1 + 1 := by unfold sIn1; split <;> rfl
      subst e
      refine ⟨⟨by omega, by omega⟩, ⟨by omega, by omega⟩, fun z2 => ⟨trivial, ⟨by omega, by omega⟩, trivial, ⟨by omega, by omega⟩, ?_⟩, fun z2 => ⟨trivial, ⟨by omega, by omega⟩, ?_⟩⟩
      · have hno : ¬ (y.1.length : Int) + y.2.1.length < many + space := by omega
        have := pl_91 hD h0 hV hj hm hs ht hQ m (y.2.2.1 + 1) f9 _ _ _ _ _ o19 o20 o21 o22 o23 o24 (by omega) hp1 (r2 hno) hz1 (by rw [hn1]; omega) (Or.inl (by rw [hn1]; omega)) (fun i hi hi2 => absurd hi2 (by rw [hn1]; omega)) (fun i hi hi2 => hc i hi (by rw [hn1] at hi2; omega)) ⟨hst.1, by omega⟩
        rw [cntE_sr hcond.1 (by omega) (by decide)] at this
        have hs1 : sNum (sIn1 J (many + space) t y) = sNum y := by unfold sIn1 sNum; rw [if_neg hno]
        rw [hs1] at this
        exact this
      · have hyes : (y.1.length : Int) + y.2.1.length < many + space := by omega
        have := pl_91 hD h0 hV hj hm hs ht hQ m (y.2.2.1 + 1) f9 _ _ _ _ _ o19 o20 o21 o22 o23 o24 (by omega) hp1 (r1 hyes) hz1 (by rw [hn1]; omega) (Or.inl (by rw [hn1]; omega)) (fun i hi hi2 => absurd hi2 (by rw [hn1]; omega)) (fun i hi hi2 => hc i hi (by rw [hn1] at hi2; omega)) ⟨by omega, by omega⟩
        have hs1 : sNum (sIn1 J (many + space) t y) = sNum y + 1 := by
          unfold sIn1 sNum
          rw [if_pos hyes]
          show (((y.1 ++ [y.2.2.1]).length : Nat) : Int) + y.2.1.length = _
          rw [List.length_append]
          show ((y.1.length + 1 : Nat) : Int) + _ = _
          omega
        rw [hs1] at this
        exact this
    · refine pl_91 hD h0 hV hj hm hs ht hQ m (k + 1) f y E F P st o19 o20 o21 o22 o23 o24 (by omega) hp hR hz hf ?_ (fun i hi hi2 => hb i (by omega) hi2) hc ⟨hst.1, by omega⟩
      by_cases w : k < y.2.2.1
      · exact Or.inl w
      · refine Or.inr (fun q => ?_)
        rcases ha with a | a
        · have e : k = y.2.2.1 := by omega
          have := hc k (by omega) (by omega)
          rw [← e] at q
          omega
        · exact a q
end PL
