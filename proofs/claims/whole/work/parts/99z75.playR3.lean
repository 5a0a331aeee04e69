/-! The reference plays: seats, works. -/
theorem mem_erase {l : List Nat} {p k : Nat} (hn : l.Nodup) (hp : p < l.length) : k ∈ l.eraseIdx p ↔ k ∈ l ∧ k ≠ l.getD p 0 := by
  rw [erase_filter l p hn hp, List.mem_filter]
  simp
theorem seatR_loop {d : Nat} {Q : Rs → Mem → Prop} {M0 : Mem} {n : Nat} {J : Nat → Int} {many by_ space wait t last : Int} (hV : VJ n J) (hn : M0 175 6 = n) (hJ : M0 151 = J) (hm : 1 ≤ many ∧ many ≤ 4) (hby : 0 ≤ by_ ∧ by_ ≤ 5) (ht : 0 ≤ t ∧ t ≤ 1500) :
    ∀ (f : Nat) (x : SG) (M : Mem) (o7 o8 : Option PV), PVi n many t x → x.1.length ≤ f → FC rcs [40, 41] M0 M → M 172 = M0 172 → RPl M n J x →
    (∀ M' o7 o8, FC rcs [40, 41] M0 M' → M' 172 = M0 172 → RPl M' n J (sSeat J many by_ t f x) → cald (d + 2) cM_there [oM] M' (fun z M1 => Rt z (fun v1 => (0 ≤ t ∧ t < 2000) ∧ (cald (d + 2) cM_works [oM, .inl t, .inl by_] (upd2 M1 172 t.toNat v1) (fun z M2 => Rt z (fun _v2 => L_M_plays_53 (d + 2) Q M2 many by_ space wait (t + 1) last o7 o8) (fun x => Q (.inr x) M2)))) (fun x => Q (.inr x) M1))) →
    L_M_plays_68 (d + 2) Q M many by_ space wait t last o7 o8
  | f, x, M, o7, o8, hp, hfu, hf, h172, hR, hA => by
    have h24 := hV.1
    have en : M 175 6 = n := by rw [hf.2 6 (by simp)]; exact hn
    have eJ : M 151 = J := by rw [hf.1 151 (by decide) (by decide)]; exact hJ
    have hR0 := hR
    have hp0 := hp
    obtain ⟨row, srv, nx, F⟩ := x
    obtain ⟨r1, r2, r3, r4⟩ := hR
    obtain ⟨p1, p2, p3, p4, p5, p6, p7, p8, p9⟩ := hp
    dsimp only at *
    have stop := fun (z : ¬ ((srv.length : Int) < many ∧ 0 < row.length)) => hA M o7 o8 hf h172 (by
      cases f with
      | zero => exact hR0
      | succ f => unfold sSeat; rw [if_neg z]; exact hR0)
    refine b_M_plays_68 ?_
    rw [r2, r1]
    refine ⟨⟨by omega, by omega⟩, ⟨by omega, by omega⟩, fun z => stop (by omega), fun z => ⟨⟨by omega, by omega⟩, fun z2 => stop (by omega), fun z2 => ?_⟩⟩
    have h0 : 0 < row.length := by omega
    have h8 : ∀ i, i ∈ row → i < 24 := fun i hi => by
      have := p3 i (List.mem_append_left _ hi)
      omega
    refine (s_nextBy (d := d + 1) (J := J) (F := F) r1 (by omega) h0 r3 h8 eJ hby (fun i hi => ?_) (fun i hi => ?_)).cal fun v1 M1 hM1 => ?_
    · have hi' := p3 i (List.mem_append_left _ hi)
      have h6 := p6 i (List.mem_append_left _ hi)
      have h4 := (r4 i (by omega)).2.1
      rw [if_pos hi'] at h4
      exact ⟨h4, by omega, by omega⟩
    · have hi' := p3 i (List.mem_append_left _ hi)
      obtain ⟨j1, j2, j3, j4⟩ := hV.2.1 i (by omega)
      exact ⟨⟨by omega, by omega⟩, by omega, by omega⟩
    obtain ⟨rfl, rfl⟩ := hM1
    have hpl := plc_lt (J := J) (by_ := by_) (row := row) (F := F) h0
    cases f with
    | zero => omega
    | succ f =>
      have estep : sSeat J many by_ t (f + 1) (row, srv, nx, F) = sSeat J many by_ t f (sSeat1 J by_ t (row, srv, nx, F)) := by
        show (if (srv.length : Int) < many ∧ 0 < row.length then _ else _) = _
        rw [if_pos ⟨by omega, h0⟩]
      rw [estep] at hA
      have hp1 := sSeat1_pvi (J := J) (by_ := by_) ht.1 hp0 h0 (show (srv.length : Int) < many by omega)
      have hx1 : sSeat1 J by_ t (row, srv, nx, F) = (row.eraseIdx (plc J by_ row F), srv.insertIdx (ipl srv (row.getD (plc J by_ row F) 0) srv.length) (row.getD (plc J by_ row F) 0), nx, if F 2 (row.getD (plc J by_ row F) 0) = -1 then upd2 F 2 (row.getD (plc J by_ row F) 0) t else F) := rfl
      rw [hx1] at hA hp1
      generalize plc J by_ row F = p at *
      have hnr := (List.nodup_append.mp p2).1
      have hmemE := fun k => mem_erase (k := k) hnr hpl
      have hvrow : row.getD p 0 ∈ row := by rw [getD_lt hpl]; exact List.getElem_mem _
      have hv24 := h8 _ hvrow
      have hvx := p3 _ (List.mem_append_left _ hvrow)
      have hvs : ¬ row.getD p 0 ∈ srv := fun z => (List.nodup_append.mp p2).2.2 _ hvrow _ z rfl
      have h5 := p5 _ hvx
      have e171 := r3.at_ hpl
      rw [Int.toNat_natCast, e171]
      refine ⟨⟨by omega, by omega⟩, ?_⟩
      refine (s_leavesRow (d := d + 1) r1 (by omega) r3 hpl).cal fun v2 M2 hM2 => ?_
      obtain ⟨f2, g1, g2⟩ := hM2
      have h169 := (r4 _ (show row.getD p 0 < n by omega)).2.2.1
      rw [if_pos hvx] at h169
      have hmi : ∀ j, j ∈ srv.insertIdx (ipl srv (row.getD p 0) srv.length) (row.getD p 0) ↔ j = row.getD p 0 ∨ j ∈ srv := fun j => List.mem_insertIdx (ipl_le _)
      generalize row.getD p 0 = v at *
      refine (s_begins (d := d + 1) (j := v) (b := srv.length) (t := t) (f := F 2 v) (by rw [f2.2 41 (by simp)]; exact r2) hv24 (by rw [f2.1 169 (by decide) (by decide)]; exact h169) ⟨by omega, by omega⟩).cal fun v3 M3 hM3 => ?_
      subst hM3
      refine seatR_loop (d := d) hV hn hJ hm hby ht f _ _ _ _ hp1 (by
        show (row.eraseIdx p).length ≤ f
        rw [List.length_eraseIdx_of_lt hpl]; omega) ((((hf.tr (f2.mono (by simp) (by simp))).u2 (by simp) (by decide)).u2 (by simp) (by decide)).slot (by simp)) (by rw [u2_off (by decide), u2_off (by decide), u2_off (by decide), f2.1 172 (by decide) (by decide)]; exact h172) ⟨?_, ?_, ?_, fun k hk => ?_⟩ hA
      · rw [u2_ne (by decide), u2_off (by decide), u2_off (by decide)]; exact g2
      · rw [u2_same]
        show (srv.length : Int) + 1 = ((srv.insertIdx (ipl srv v srv.length) v).length : Int)
        rw [List.length_insertIdx_of_le_length (ipl_le _)]; rfl
      · rw [u2_off (by decide), u2_off (by decide), u2_off (by decide)]; exact g1
      · obtain ⟨m1, m2, m3, m4⟩ := r4 k hk
        rw [u2_off (show (167 : Nat) ≠ 175 by decide), u2_off (show (167 : Nat) ≠ 169 by decide), u2_row, u2_off (show (168 : Nat) ≠ 175 by decide), u2_off (show (168 : Nat) ≠ 169 by decide), u2_off (show (168 : Nat) ≠ 167 by decide), u2_off (show (169 : Nat) ≠ 175 by decide), u2_row, u2_off (show (169 : Nat) ≠ 167 by decide), u2_off (show (170 : Nat) ≠ 175 by decide), u2_off (show (170 : Nat) ≠ 169 by decide), u2_off (show (170 : Nat) ≠ 167 by decide), f2.1 167 (by decide) (by decide), f2.1 168 (by decide) (by decide), f2.1 169 (by decide) (by decide), f2.1 170 (by decide) (by decide)]
        have hFk : ∀ c, c ≠ 2 → (if F 2 v = -1 then upd2 F 2 v t else F) c k = F c k := fun c hc => by
          by_cases e : F 2 v = -1
          · rw [if_pos e, u2_off hc]
          · rw [if_neg e]
        have hF2 : (if F 2 v = -1 then upd2 F 2 v t else F) 2 k = if k = v then (if F 2 v = -1 then t else F 2 v) else F 2 k := by
          by_cases e2 : F 2 v = -1
          · rw [if_pos e2, u2']
            by_cases e : k = v
            · rw [if_pos ⟨rfl, e⟩, if_pos e, if_pos e2]
            · rw [if_neg fun y => e y.2, if_neg e]
          · rw [if_neg e2]
            by_cases e : k = v
            · rw [if_pos e, if_neg e2, e]
            · rw [if_neg e]
        unfold stR at m1 ⊢
        dsimp only at m1 ⊢
        rw [hFk 0 (by decide), hFk 1 (by decide), hFk 3 (by decide), hF2]
        by_cases e : k = v
        · subst e
          rw [sr_same, sr_same, if_pos hvx, if_pos hvx, if_pos hvx, if_pos ((hmi k).mpr (Or.inl rfl)), if_pos rfl]
          rw [if_pos hvx] at m2
          exact ⟨rfl, m2, rfl, m4⟩
        · rw [sr_ne e, sr_ne e, if_neg e]
          have q1 : (k ∈ srv.insertIdx (ipl srv v srv.length) v) = (k ∈ srv) := propext ⟨fun y => ((hmi k).mp y).resolve_left e, fun y => (hmi k).mpr (Or.inr y)⟩
          have q2 : (k ∈ row.eraseIdx p) = (k ∈ row) := propext ⟨fun y => ((hmemE k).mp y).1, fun y => (hmemE k).mpr ⟨y, e⟩⟩
          simp only [q1, q2]
          exact ⟨m1, m2, m3, m4⟩
theorem worksR_loop {d : Nat} {Q : Rs → Mem → Prop} {M0 : Mem} {n : Nat} {J : Nat → Int} {many by_ t : Int} (h24 : n ≤ 24) (hn : M0 175 6 = n) (hby : 0 ≤ by_ ∧ by_ ≤ 5) (ht : 0 ≤ t ∧ t ≤ 1500) :
    ∀ (m k : Nat) (L : List Nat) (row kept : List Nat) (nx : Nat) (F : Mem) (M : Mem), k + m = n → WVi n many t L (row, kept, nx, F) → (∀ j, j ∈ L → k ≤ j) → (∀ j, j ∈ kept → j < k) → FC rcs [40, 41] M0 M → M 172 = M0 172 → RPl M n J (row, kept ++ L, nx, F) →
    (∀ M', FC rcs [40, 41] M0 M' → M' 172 = M0 172 → RPl M' n J (sWk by_ t L (row, kept, nx, F)) → Q (.inl 0) M') → L_M_works_2 (d + 1) Q M t by_ (k : Int)
  | m, k, L, row, kept, nx, F, M, hk, hW, hL, hkp, hf, h172, hR, hQ => by
    have en : M 175 6 = n := by rw [hf.2 6 (by simp)]; exact hn
    have hW0 := hW
    have hR0 := hR
    obtain ⟨p1, p2, p3, p4, p5, p6, p7, p8, p9⟩ := hW
    obtain ⟨r1, r2, r3, r4⟩ := hR
    dsimp only at *
    refine b_M_works_2 ?_
    rw [en, Int.toNat_natCast, u2_same]
    refine ⟨⟨by omega, by omega⟩, ⟨by omega, by omega⟩, fun z => ?_, fun z => ?_⟩
    · have eL : L = [] := by
        cases L with
        | nil => rfl
        | cons j L =>
          have h1 := hL j List.mem_cons_self
          have h2 := p3 j (List.mem_append_right _ List.mem_cons_self)
          omega
      subst eL
      rw [List.append_nil] at hR0
      exact hQ M hf h172 hR0
    · have hkn : k < n := by omega
      obtain ⟨m1, m2, m3, m4⟩ := r4 k hkn
      cases m with
      | zero => omega
      | succ m =>
        have skip : ¬ k ∈ L → L_M_works_2 (d + 1) Q M t by_ ((k : Int) + 1) := fun hkL => by
          exact worksR_loop h24 hn hby ht m (k + 1) L row kept nx F M (by omega) hW0 (fun j hj => by
            have := hL j hj
            have : j ≠ k := fun e => hkL (by rw [← e]; exact hj)
            omega) (fun j hj => by have := hkp j hj; omega) hf h172 hR0 hQ
        by_cases hkL : k ∈ L
        · -- the first of L
          cases L with
          | nil => simp at hkL
          | cons j L =>
            have ej : j = k := by
              rcases List.mem_cons.mp hkL with y | y
              · exact y.symm
              · have h1 := (List.pairwise_cons.mp ((List.pairwise_append.mp p4).2.1)).1 k y
                have h2 := hL j List.mem_cons_self
                omega
            subst ej
            have hjin : j ∈ row ++ kept ++ j :: L := List.mem_append_right _ List.mem_cons_self
            have hjx := p3 j hjin
            have hb := p6 j hjin
            have hjs : j ∈ kept ++ j :: L := List.mem_append_right _ List.mem_cons_self
            unfold stR at m1
            dsimp only at m1
            rw [if_pos hjx, if_pos hjs] at m1
            rw [if_pos hjx] at m2 m3
            rw [m1, m2]
            have hwk : sWk by_ t (j :: L) (row, kept, nx, F) = (if F 1 j - 1 ≤ 0 then sWk by_ t L (row, kept, nx, upd2 (upd2 (upd2 F 1 j (F 1 j - 1)) 0 j 0) 3 j (t + 1))
              else if 4 ≤ by_ then sWk by_ t L (row ++ [j], kept, nx, upd2 F 1 j (F 1 j - 1))
              else sWk by_ t L (row, kept ++ [j], nx, upd2 F 1 j (F 1 j - 1))) := rfl
            have hnd : ¬ j ∈ row ++ kept ++ L := by
              have hp : ((row ++ kept) ++ j :: L).Perm (j :: ((row ++ kept) ++ L)) := List.perm_middle
              exact (List.nodup_cons.mp (hp.nodup_iff.mp p2)).1
            have hnkL : ¬ j ∈ kept ++ L := fun y => hnd (by
              rw [List.append_assoc]; exact List.mem_append_right _ y)
            have hnrow : ¬ j ∈ row := fun y => hnd (List.mem_append_left _ (List.mem_append_left _ y))
            have hL' : ∀ i, i ∈ L → j + 1 ≤ i := fun i hi => (List.pairwise_cons.mp ((List.pairwise_append.mp p4).2.1)).1 i hi
            have hlen : (kept ++ j :: L).length = (kept ++ L).length + 1 := by simp; omega
            have r2' : M 175 41 = ((kept ++ L).length : Int) + 1 := by rw [r2, hlen]; rfl
            have memS : ∀ i, i ≠ j → ((i ∈ kept ++ j :: L) = (i ∈ kept ++ L)) := fun i e => propext ⟨fun y => by
              rcases List.mem_append.mp y with w | w
              · exact List.mem_append_left _ w
              · rcases List.mem_cons.mp w with u | u
                · exact absurd u e
                · exact List.mem_append_right _ u, fun y => by
              rcases List.mem_append.mp y with w | w
              · exact List.mem_append_left _ w
              · exact List.mem_append_right _ (List.mem_cons_of_mem _ w)⟩
            refine ⟨⟨by omega, by omega⟩, ⟨by decide, by decide⟩, fun _ => ⟨⟨by omega, by omega⟩, fun z2 => ⟨⟨by omega, by omega⟩, fun z3 => ?_, fun z3 => ?_⟩, fun z2 => ?_⟩, fun y => absurd rfl y⟩
            · -- stays
              rw [if_neg (by omega), if_neg (by omega)] at hwk
              rw [hwk] at hQ
              refine worksR_loop h24 hn hby ht m (j + 1) L row (kept ++ [j]) nx _ _ (by omega) (wvi_srv ht.1 hW0 (by omega)) hL' (fun i hi => ?_) (hf.u2 (by simp) (by decide)) (by rw [u2_off (by decide)]; exact h172) ⟨?_, ?_, ?_, fun i hi => ?_⟩ hQ
              · rcases List.mem_append.mp hi with y | y
                · have := hkp i y; omega
                · have := List.mem_singleton.mp y; omega
              · rw [u2_off (by decide)]; exact r1
              · rw [u2_off (by decide), r2]; simp
              · rw [u2_off (by decide)]; exact r3
              · obtain ⟨q1, q2, q3, q4⟩ := r4 i hi
                have el : kept ++ [j] ++ L = kept ++ j :: L := by simp
                unfold stR at q1 ⊢
                dsimp only at q1 q4 ⊢
                rw [el, u2_off (show (167 : Nat) ≠ 168 by decide), u2_row, u2_off (show (169 : Nat) ≠ 168 by decide), u2_off (show (170 : Nat) ≠ 168 by decide), u2_off (show (0 : Nat) ≠ 1 by decide), u2_off (show (2 : Nat) ≠ 1 by decide), u2_off (show (3 : Nat) ≠ 1 by decide), u2_row]
                refine ⟨q1, ?_, q3, q4⟩
                by_cases e : i = j
                · subst e; rw [sr_same, sr_same, if_pos hjx]
                · rw [sr_ne e, sr_ne e]; exact q2
            · -- waits again
              rw [if_neg (by omega), if_pos (by omega)] at hwk
              rw [hwk] at hQ
              refine (s_waits (d := d) (j := j) (w := row.length) (by rw [u2_off (by decide)]; exact r1) (by simp at hlen p8; omega) (by omega)).cal fun v2 M2 hM2 => ?_
              subst hM2
              rw [u2_ne (show (41 : Nat) ≠ 40 by decide), u2_off (show (175 : Nat) ≠ 171 by decide), u2_off (show (175 : Nat) ≠ 167 by decide), u2_off (show (175 : Nat) ≠ 168 by decide), r2']
              refine worksR_loop h24 hn hby ht m (j + 1) L (row ++ [j]) kept nx _ _ (by omega) (wvi_row ht.1 hW0 (by omega)) hL' (fun i hi => by have := hkp i hi; omega) (((((hf.u2 (by simp) (by decide)).u2 (by simp) (by decide)).u2 (by simp) (by decide)).slot (by simp)).slot (by simp)) ?_ ⟨?_, ?_, ?_, fun i hi => ?_⟩ hQ
              · rw [u2_off (by decide), u2_off (by decide), u2_off (by decide), u2_off (by decide), u2_off (by decide)]; exact h172
              · rw [u2_ne (by decide), u2_same]
                show (row.length : Int) + 1 = ((row ++ [j]).length : Int)
                rw [List.length_append]; rfl
              · rw [u2_same]
                show ((kept ++ L).length : Int) + 1 - 1 = ((kept ++ L).length : Int)
                omega
              · rw [u2_off (by decide), u2_off (by decide), u2_row, u2_off (by decide), u2_off (by decide)]; exact r3.app
              · obtain ⟨q1, q2, q3, q4⟩ := r4 i hi
                unfold stR at q1 ⊢
                dsimp only at q1 q4 ⊢
                rw [u2_off (show (167 : Nat) ≠ 175 by decide), u2_off (show (167 : Nat) ≠ 175 by decide), u2_off (show (167 : Nat) ≠ 171 by decide), u2_row, u2_off (show (167 : Nat) ≠ 168 by decide), u2_off (show (168 : Nat) ≠ 175 by decide), u2_off (show (168 : Nat) ≠ 175 by decide), u2_off (show (168 : Nat) ≠ 171 by decide), u2_off (show (168 : Nat) ≠ 167 by decide), u2_row, u2_off (show (169 : Nat) ≠ 175 by decide), u2_off (show (169 : Nat) ≠ 175 by decide), u2_off (show (169 : Nat) ≠ 171 by decide), u2_off (show (169 : Nat) ≠ 167 by decide), u2_off (show (169 : Nat) ≠ 168 by decide), u2_off (show (170 : Nat) ≠ 175 by decide), u2_off (show (170 : Nat) ≠ 175 by decide), u2_off (show (170 : Nat) ≠ 171 by decide), u2_off (show (170 : Nat) ≠ 167 by decide), u2_off (show (170 : Nat) ≠ 168 by decide), u2_off (show (0 : Nat) ≠ 1 by decide), u2_off (show (2 : Nat) ≠ 1 by decide), u2_off (show (3 : Nat) ≠ 1 by decide), u2_row]
                by_cases e : i = j
                · subst e
                  rw [sr_same, sr_same, sr_same, if_pos hjx, if_neg hnkL, if_pos (List.mem_append_right _ (List.mem_singleton.mpr rfl)), if_pos hjx]
                  exact ⟨rfl, rfl, q3, q4⟩
                · rw [sr_ne e, sr_ne e, sr_ne e]
                  have hr : (i ∈ row ++ [j]) = (i ∈ row) := propext ⟨fun y => by
                    rcases List.mem_append.mp y with w | w
                    · exact w
                    · exact absurd (List.mem_singleton.mp w) e, fun y => List.mem_append_left _ y⟩
                  simp only [memS i e] at q1
                  simp only [hr]
                  exact ⟨q1, q2, q3, q4⟩
            · -- done
              rw [if_pos (by omega)] at hwk
              rw [hwk] at hQ
              rw [r2']
              refine worksR_loop h24 hn hby ht m (j + 1) L row kept nx _ _ (by omega) (wvi_done ht.1 hW0 (by omega)) hL' (fun i hi => by have := hkp i hi; omega) ((((hf.u2 (by simp) (by decide)).u2 (by simp) (by decide)).u2 (by simp) (by decide)).slot (by simp)) ?_ ⟨?_, ?_, ?_, fun i hi => ?_⟩ hQ
              · rw [u2_off (by decide), u2_off (by decide), u2_off (by decide), u2_off (by decide)]; exact h172
              · rw [u2_ne (by decide), u2_off (by decide), u2_off (by decide), u2_off (by decide)]; exact r1
              · rw [u2_same]
                show ((kept ++ L).length : Int) + 1 - 1 = ((kept ++ L).length : Int)
                omega
              · rw [u2_off (by decide), u2_off (by decide), u2_off (by decide), u2_off (by decide)]; exact r3
              · obtain ⟨q1, q2, q3, q4⟩ := r4 i hi
                unfold stR at q1 ⊢
                dsimp only at q1 q4 ⊢
                rw [u2_off (show (167 : Nat) ≠ 175 by decide), u2_off (show (167 : Nat) ≠ 170 by decide), u2_row, u2_off (show (167 : Nat) ≠ 168 by decide), u2_off (show (168 : Nat) ≠ 175 by decide), u2_off (show (168 : Nat) ≠ 170 by decide), u2_off (show (168 : Nat) ≠ 167 by decide), u2_row, u2_off (show (169 : Nat) ≠ 175 by decide), u2_off (show (169 : Nat) ≠ 170 by decide), u2_off (show (169 : Nat) ≠ 167 by decide), u2_off (show (169 : Nat) ≠ 168 by decide), u2_off (show (170 : Nat) ≠ 175 by decide), u2_row, u2_off (show (170 : Nat) ≠ 167 by decide), u2_off (show (170 : Nat) ≠ 168 by decide), u2_off (show (0 : Nat) ≠ 3 by decide), u2_row, u2_off (show (0 : Nat) ≠ 1 by decide), u2_off (show (1 : Nat) ≠ 3 by decide), u2_off (show (1 : Nat) ≠ 0 by decide), u2_row, u2_off (show (2 : Nat) ≠ 3 by decide), u2_off (show (2 : Nat) ≠ 0 by decide), u2_off (show (2 : Nat) ≠ 1 by decide), u2_row, u2_off (show (3 : Nat) ≠ 0 by decide), u2_off (show (3 : Nat) ≠ 1 by decide)]
                by_cases e : i = j
                · subst e
                  rw [sr_same, sr_same, sr_same, sr_same, sr_same, sr_same, if_pos hjx, if_neg hnkL, if_neg hnrow, if_pos hjx]
                  exact ⟨rfl, rfl, q3, fun _ _ => rfl⟩
                · rw [sr_ne e, sr_ne e, sr_ne e, sr_ne e, sr_ne e, sr_ne e]
                  simp only [memS i e] at q1
                  exact ⟨q1, q2, q3, q4⟩
        · -- not served
          have hks : ¬ k ∈ kept ++ L := fun y => by
            rcases List.mem_append.mp y with w | w
            · have := hkp k w; omega
            · exact hkL w
          unfold stR at m1
          dsimp only at m1
          have hst : M 167 k ≠ 5 ∧ R32 (M 167 k) := by
            by_cases q : k < nx
            · rw [if_pos q, if_neg hks] at m1
              by_cases q2 : k ∈ row
              · rw [if_pos q2] at m1
                rw [m1]; exact ⟨by decide, by decide, by decide⟩
              · rw [if_neg q2] at m1
                obtain ⟨_, a2, a3, _⟩ := p5 k q
                rw [m1]; exact ⟨by omega, by omega, by omega⟩
            · rw [if_neg q] at m1
              rw [m1]; exact ⟨by decide, by decide, by decide⟩
          exact ⟨⟨by omega, by omega⟩, hst.2, fun y => absurd y hst.1, fun _ => skip hkL⟩
