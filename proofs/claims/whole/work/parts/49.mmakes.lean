-- the reference goes through a world, makes it, gathers all
theorem F2.za {w : Nat} {u v : Vv} (h : F2 AMz LMz u v) : F2 (AMw w) LMz u v := h.mono (fun i k q => Or.inl q) fun i k q => q
theorem F2.aw {w : Nat} {u v : Vv} (h : F2 (AMw w) LMz u v) : F2 (AMw w) (LMw w) u v := h.mono (fun i k q => q) fun i k q => Or.inl q
section MM
variable {A : Cf} {F : Rl} {n m w : Nat}
theorem six (w c : Nat) : (6 : Int32) * nI w + nI c = nI (6 * w + c) := by rw [show (6 : Int32) = nI 6 from rfl, nI_mul, nI_add]
theorem RM_put {c : Nat} {S : Wd} {v : Vv} (h : RM w n S v) (hc : c < n) {x : Int32} : RM w n (up S.1 c (S.1 c + x), up S.2 c (S.2 c + 1)) (sI (sI v 165 (6 * w + c) (v.1 165 (6 * w + c) + x)) 166 (6 * w + c) ((sI v 165 (6 * w + c) (v.1 165 (6 * w + c) + x)).1 166 (6 * w + c) + 1)) := fun y hy => by
  have e1 : (sI v 165 (6 * w + c) (v.1 165 (6 * w + c) + x)).1 166 (6 * w + c) = S.2 c := by rw [sI_cell _ _ _ _ (by omega)]; exact (h c hc).2
  rw [e1, (h c hc).1]
  show _ = (if y = c then S.1 c + x else S.1 y) ∧ _ = (if y = c then S.2 c + 1 else S.2 y)
  by_cases e : y = c
  · subst e
    rw [if_pos rfl, if_pos rfl, sI_same, sI_cell _ _ _ _ (by omega), sI_same]
    exact ⟨rfl, rfl⟩
  · rw [if_neg e, if_neg e, sI_slot _ _ _ _ (by omega), sI_slot _ _ _ _ (by omega), sI_slot _ _ _ _ (by omega), sI_slot _ _ _ _ (by omega)]
    exact h y hy
theorem M_row (hA : OK A n m) (hw : w < 32) {d r b : Nat} (hd : d < m) (hr : r < 6) (hg : goes A d r) {ah : Int32} {S : Wd} (hb : b < 900) (hS : DBs n b S) {v0 : Vv} (hM : MA A n m v0) (hT : MT F v0) {Q : Vv → Prop} (hQ : ∀ v', F2 (AMw w) LMz v0 v' → RM w n (rowc A F n d ah r n S) v' → k_M_goesThrough_168 (nI d) ah (nI (6 * w)) (nI (6 * w + trs A n d)) (nI r) v' Q) : ∀ j c : Nat, c + j = n → ∀ v, F2 (AMw w) LMz v0 v → RM w n (rowc A F n d ah r c S) v → k_M_goesThrough_35 (nI d) ah (nI (6 * w)) (nI (6 * w + trs A n d)) (nI r) (nI c) v Q := by
  obtain ⟨h6, h5, -, hD⟩ := id hA
  intro j
  induction j with
  | zero =>
    intro c e v f hR
    obtain rfl : c = n := e
    refine s_M_goesThrough_35 ?_
    rw [(hM.fw f.aw).1, if_neg (nI_nlt (Nat.le_refl _) (by omega))]
    exact hQ v f hR
  | succ j ih =>
    intro c e v f hR
    have hMv := hM.fw f.aw
    obtain ⟨t1, t2⟩ := trs_lt hA (by omega) hd
    obtain ⟨c1, c2, c3, c4⟩ := id hMv
    obtain ⟨q0, q1, q2, q3⟩ := c3 c (by omega)
    obtain ⟨d1, d2, d3⟩ := c4 d hd
    refine s_M_goesThrough_35 ?_
    rw [c1, if_pos (nI_lt (by omega) (by omega)), ix_nI (by omega), ix_nI (by omega), d3]
    refine ⟨ib_nI (by omega) (by decide), ?_⟩
    have hg' := hg
    unfold goes at hg'
    rw [if_pos hg', nI_add, ix_nI (by omega), ix_nI (by omega), q0, q2]
    refine ⟨ib_nI (by omega) (by decide), ib_nI (by omega) (by decide), ib_nI (by omega) (by decide), ?_⟩
    have hskip : ∀ u, F2 (AMw w) LMz v0 u → RM w n (visc A F n d ah r c (rowc A F n d ah r c S)) u → k_M_goesThrough_162 (nI d) ah (nI (6 * w)) (nI (6 * w + trs A n d)) (nI r) (nI c) u Q := fun u g hu => by
      refine s_M_goesThrough_162 ?_
      rw [nI_1]
      exact ih (c + 1) (by omega) u g hu
    unfold visc at hskip
    by_cases g1 : cro A c = nI r
    · rw [if_pos g1]
      by_cases g2 : cse A c = 0
      · rw [if_pos g2]
        rw [if_pos ⟨g1, g2⟩] at hskip
        have hdb := DB_row (A := A) (F := F) (d := d) (r := r) (ah := ah) hb hS c (by omega) c (by omega)
        rw [(hR c (by omega)).1, (hR c (by omega)).2, (hR _ t1).1]
        refine M_does (by omega) (by rw [d1]; exact (hD d hd).1) hdb.1 ?_
        rw [d1, d2]
        unfold vis at hskip
        by_cases g : dox (cki A d) (cnu A d) (nI c) ((rowc A F n d ah r c S).2 c) ((rowc A F n d ah r c S).1 (trs A n d) - (rowc A F n d ah r c S).1 c) ah = true
        · rw [if_pos g] at hskip ⊢
          rw [(hR c (by omega)).1, (hR c (by omega)).2]
          refine M_addsBy hA hd (by omega) hMv (hT.fw f.aw) fun v1 f1 => ?_
          have hR1 := hR.z f1
          have hput := RM_put (x := adx (cki A d) (cnu A d) (addv A F d c ((rowc A F n d ah r c S).2 c)) ((rowc A F n d ah r c S).1 (trs A n d) - (rowc A F n d ah r c S).1 c)) hR1 (show c < n by omega)
          rw [(hR1 c (by omega)).1] at hput
          exact hskip _ (((f.tr f1.za).sI (by unfold AMw; omega) _).sI (by unfold AMw; omega) _) hput
        · rw [if_neg g] at hskip ⊢
          exact hskip v f hR
      · rw [if_neg g2]
        rw [if_neg (fun z => g2 z.2)] at hskip
        exact hskip v f hR
    · rw [if_neg g1]
      rw [if_neg (fun z => g1 z.1)] at hskip
      exact hskip v f hR
theorem M_rooms (hA : OK A n m) (hw : w < 32) (hn : 0 < n) {d b : Nat} (hd : d < m) {ah : Int32} {S : Wd} (hb : b < 800) (hS : DBs n b S) {v0 : Vv} (hM : MA A n m v0) (hT : MT F v0) {Q : Vv → Prop} (hQ : ∀ v', F2 (AMw w) LMz v0 v' → RM w n (roomsc A F n d ah 6 S) v' → Q v') : ∀ j r : Nat, r + j = 6 → ∀ v, F2 (AMw w) LMz v0 v → RM w n (roomsc A F n d ah r S) v → k_M_goesThrough_25 (nI d) ah (nI (6 * w)) (nI (6 * w + trs A n d)) (nI r) v Q := by
  obtain ⟨h6, h5, -, -⟩ := id hA
  intro j
  induction j with
  | zero =>
    intro r e v f hR
    obtain rfl : r = 6 := e
    refine s_M_goesThrough_25 ?_
    rw [if_neg (by decide)]
    exact hQ v f hR
  | succ j ih =>
    intro r e v f hR
    refine s_M_goesThrough_25 ?_
    rw [if_pos (by rw [show (6 : Int32) = nI 6 from rfl]; exact nI_lt (by omega) (by decide))]
    have hnext : ∀ v', F2 (AMw w) LMz v0 v' → RM w n (roomc A F n d ah r (roomsc A F n d ah r S)) v' → k_M_goesThrough_168 (nI d) ah (nI (6 * w)) (nI (6 * w + trs A n d)) (nI r) v' Q := fun v' f' hR' => by
      refine s_M_goesThrough_168 ?_
      rw [nI_1]
      exact ih (r + 1) (by omega) v' f' hR'
    unfold roomc at hnext
    by_cases hg : goes A d r
    · rw [if_pos hg] at hnext
      exact M_row hA hw hd (by omega) hg (b := b + 6 * r) (by omega) (DB_rooms hA.1 hb hS r (by omega)) hM hT hnext n 0 (by omega) v f hR
    · rw [if_neg hg] at hnext
      obtain ⟨c1, c2, c3, c4⟩ := hM.fw f.aw
      refine s_M_goesThrough_35 ?_
      rw [c1, if_pos (by rw [show (0 : Int32) = nI 0 from rfl]; exact nI_lt (by omega) (by omega)), ix_nI (by omega), (c4 d hd).2.2]
      refine ⟨ib_nI (by omega) (by decide), ?_⟩
      unfold goes at hg
      rw [if_neg hg]
      exact hnext v f hR
theorem M_goes (hA : OK A n m) (hw : w < 32) (hn : 0 < n) {d b : Nat} (hd : d < m) {ah : Int32} {S : Wd} (hb : b < 800) (hS : DBs n b S) {v : Vv} (hM : MA A n m v) (hT : MT F v) (hR : RM w n S v) {Q : Vv → Prop} (hQ : ∀ v', F2 (AMw w) LMz v v' → RM w n (roomsc A F n d ah 6 S) v' → Q v') : m_M_goesThrough (nI w) (nI d) ah v Q := by
  obtain ⟨h6, h5, -, -⟩ := id hA
  obtain ⟨t1, t2⟩ := trs_lt hA hn hd
  refine s_M_goesThrough ⟨ib_nI (by omega) (by decide), fun z => ?_, ?_⟩
  · rw [hM.1, i_eq, nI_tI (by omega), t_0] at z
    omega
  · rw [hM.1, ix_nI (by omega), (hM.2.2.2 d hd).2.1, t2, six, show (6 : Int32) * nI w = nI (6 * w) from by rw [show (6 : Int32) = nI 6 from rfl, nI_mul]]
    exact M_rooms hA hw hn hd hb hS hM hT hQ 6 0 rfl v (F2.rf _ _ _) hR
/-- one row of the reference's -/
def MROW (A : Cf) (F : Rl) (n m w : Nat) (v : Vv) : Prop := RM w n (gone A F n w m).1 v ∧ v.1 168 w = rgt A F n m w n ∧ v.2.1 167 w = chc A F w m ∧ v.1 169 w = (if fit A F n m w = true then 1 else 0) ∧ v.1 170 w = tim A F n m w
theorem bI_shl (x : Bool) (k c : Int32) : (k ||| bI x <<< c) = if x = true then k ||| (1 : Int32) <<< c else k := by
  cases x
  · rw [if_neg (by decide)]
    show k ||| (0 : Int32) <<< c = k
    have : (0 : Int32) <<< c = 0 := by
      rw [← Int32.toBitVec_inj, Int32.toBitVec_shiftLeft]
      exact BitVec.zero_shiftLeft _
    rw [this, Int32.or_zero]
  · rw [if_pos rfl]; rfl
theorem M_makes (hA : OK A n m) (hw : w < 32) {v : Vv} (hM : MA A n m v) (hT : MT F v) {Q : Vv → Prop} (hQ : ∀ v', F2 (AMw w) (LMw w) v v' → MROW A F n m w v' → Q v') : m_M_makes (nI w) v Q := by
  obtain ⟨h6, h5, -, -⟩ := id hA
  -- after the doers
  have hloop : ∀ j c : Nat, c + j = n → ∀ u, F2 (AMw w) (LMw w) v u → RM w n (gone A F n w m).1 u → u.2.1 167 w = chc A F w m → u.1 168 w = rgt A F n m w c → u.1 169 w = (if (tmf A F n m w c).2 = true then 1 else 0) → u.1 170 w = (tmf A F n m w c).1 → k_M_makes_188 (nI w) (nI c) u Q := by
    intro j
    induction j with
    | zero =>
      intro c e u f hR hc h68 h69 h70
      obtain rfl : c = n := e
      refine s_M_makes_188 ?_
      rw [(hM.fw f).1, if_neg (nI_nlt (Nat.le_refl _) (by omega)), ix_nI (by omega), h69, h70]
      refine ⟨ib_nI hw (by decide), hQ _ (f.sI (by unfold AMw; omega) _) ⟨fun x hx => ?_, ?_, hc, ?_, ?_⟩⟩
      · rw [sI_cell _ _ _ _ (by decide), sI_cell _ _ _ _ (by decide)]; exact hR x hx
      · rw [sI_cell _ _ _ _ (by decide)]; exact h68
      · rw [sI_cell _ _ _ _ (by decide)]; exact h69
      · rw [sI_same]
        unfold tim fit
        cases (tmf A F c m w c).2
        · rw [if_neg (by decide), if_neg (by decide)]
        · rw [if_pos rfl, if_pos rfl, if_pos rfl]
    | succ j ih =>
      intro c e u f hR hc h68 h69 h70
      obtain ⟨c1, c2, c3, c4⟩ := hM.fw f
      obtain ⟨q0, q1, q2, q3⟩ := c3 c (by omega)
      refine s_M_makes_188 ?_
      rw [c1, if_pos (nI_lt (by omega) (by omega)), six, ix_nI (by omega), ix_nI (by omega), ix_nI (by omega), (hR c (by omega)).1, h68, bI_shl]
      refine ⟨ib_nI hw (by decide), ib_nI (by omega) (by decide), ib_nI (by omega) (by decide), ?_⟩
      have er : (if (if (gone A F n w m).1.1 c = 60 then true else false) = true then rgt A F n m w c ||| (1 : Int32) <<< (nI c &&& 31) else rgt A F n m w c) = rgt A F n m w (c + 1) := by
        show _ = if wat A F n m w c = 60 then _ else _
        unfold wat
        by_cases q : (gone A F n w m).1.1 c = 60
        · rw [if_pos q, if_pos rfl, if_pos q]
        · rw [if_neg q, if_neg (by decide), if_neg q]
      rw [er]
      have g1 := f.sI (i := 168) (k := w) (by unfold AMw; omega) (rgt A F n m w (c + 1))
      have hR1 : RM w n (gone A F n w m).1 (sI u 168 w (rgt A F n m w (c + 1))) := fun x hx => by rw [sI_cell _ _ _ _ (by decide), sI_cell _ _ _ _ (by decide)]; exact hR x hx
      have e161 : (sI u 168 w (rgt A F n m w (c + 1))).1 161 c = csa A c := by rw [sI_cell _ _ _ _ (by decide)]; exact q3
      have e165 : (sI u 168 w (rgt A F n m w (c + 1))).1 165 (6 * w + c) = wat A F n m w c := by rw [sI_cell _ _ _ _ (by decide)]; exact (hR c (by omega)).1
      have e168 : (sI u 168 w (rgt A F n m w (c + 1))).1 168 w = rgt A F n m w (c + 1) := sI_same _ _ _ _
      have e169 : (sI u 168 w (rgt A F n m w (c + 1))).1 169 w = (if (tmf A F n m w c).2 = true then 1 else 0) := by rw [sI_cell _ _ _ _ (by decide)]; exact h69
      have e170 : (sI u 168 w (rgt A F n m w (c + 1))).1 170 w = (tmf A F n m w c).1 := by rw [sI_cell _ _ _ _ (by decide)]; exact h70
      have e167 : (sI u 168 w (rgt A F n m w (c + 1))).2.1 167 w = chc A F w m := hc
      generalize sI u 168 w (rgt A F n m w (c + 1)) = u1 at *
      rw [e161, e165]
      have ih := ih (c + 1) (by omega)
      have e0 : tmf A F n m w (c + 1) = if csa A c = -1 then tmf A F n m w c else (day (csa A c - wat A F n m w c + 60), (tmf A F n m w c).2 && (decide ((tmf A F n m w c).1 = -1) || decide ((tmf A F n m w c).1 = day (csa A c - wat A F n m w c + 60)))) := rfl
      by_cases q : csa A c = -1
      · rw [if_pos q]
        rw [if_pos q] at e0
        refine s_M_makes_300 ?_
        rw [nI_1]
        exact ih u1 g1 hR1 e167 e168 (by rw [e0]; exact e169) (by rw [e0]; exact e170)
      · rw [if_neg q]
        rw [if_neg q] at e0
        refine M_dayOf ?_
        show (if u1.1 170 w = -1 then k_M_makes_292 (nI w) (nI c) (day (csa A c - wat A F n m w c + 60)) u1 Q else if u1.1 170 w = day (csa A c - wat A F n m w c + 60) then k_M_makes_292 (nI w) (nI c) (day (csa A c - wat A F n m w c + 60)) u1 Q else k_M_makes_292 (nI w) (nI c) (day (csa A c - wat A F n m w c + 60)) (sI u1 169 w 0) Q)
        have hgo : ∀ u2, F2 (AMw w) (LMw w) v u2 → RM w n (gone A F n w m).1 u2 → u2.2.1 167 w = chc A F w m → u2.1 168 w = rgt A F n m w (c + 1) → u2.1 169 w = (if (tmf A F n m w (c + 1)).2 = true then 1 else 0) → k_M_makes_292 (nI w) (nI c) (day (csa A c - wat A F n m w c + 60)) u2 Q := fun u2 g2 hR2 k1 k2 k3 => by
          refine s_M_makes_292 ⟨ib_nI hw (by decide), s_M_makes_300 ?_⟩
          rw [nI_1, ix_nI (by omega)]
          refine ih _ (g2.sI (by unfold AMw; omega) _) (fun x hx => ?_) k1 ?_ ?_ ?_
          · rw [sI_cell _ _ _ _ (by decide), sI_cell _ _ _ _ (by decide)]; exact hR2 x hx
          · rw [sI_cell _ _ _ _ (by decide)]; exact k2
          · rw [sI_cell _ _ _ _ (by decide)]; exact k3
          · rw [sI_same, e0]
        rw [e170]
        by_cases y1 : (tmf A F n m w c).1 = -1
        · rw [if_pos y1]
          refine hgo u1 g1 hR1 e167 e168 ?_
          rw [e169, e0, decide_eq_true y1]
          show _ = if ((tmf A F n m w c).2 && true) = true then _ else _
          rw [Bool.and_true]
        · rw [if_neg y1]
          by_cases y2 : (tmf A F n m w c).1 = day (csa A c - wat A F n m w c + 60)
          · rw [if_pos y2]
            refine hgo u1 g1 hR1 e167 e168 ?_
            rw [e169, e0, decide_eq_true y2, Bool.or_true]
            show _ = if ((tmf A F n m w c).2 && true) = true then _ else _
            rw [Bool.and_true]
          · rw [if_neg y2]
            refine hgo _ (g1.sI (by unfold AMw; omega) _) (fun x hx => ?_) e167 ?_ ?_
            · rw [sI_cell _ _ _ _ (by decide), sI_cell _ _ _ _ (by decide)]; exact hR1 x hx
            · rw [sI_cell _ _ _ _ (by decide)]; exact e168
            · rw [sI_same, e0, decide_eq_false y1, decide_eq_false y2]
              show _ = if ((tmf A F n m w c).2 && false) = true then _ else _
              rw [Bool.and_false, if_neg (by decide)]
  have hend : ∀ u, F2 (AMw w) (LMw w) v u → RM w n (gone A F n w m).1 u → u.2.1 167 w = chc A F w m → k_M_makes_188 (nI w) (nI 0) (sI (sI (sI u 168 w 0) 169 w 1) 170 w (-1)) Q := by
    intro u f hR hc
    refine hloop n 0 (by omega) _ (((f.sI (by unfold AMw; omega) _).sI (by unfold AMw; omega) _).sI (by unfold AMw; omega) _) (fun x hx => ?_) hc ?_ ?_ ?_
    · rw [sI_cell _ _ _ _ (by decide), sI_cell _ _ _ _ (by decide), sI_cell _ _ _ _ (by decide), sI_cell _ _ _ _ (by decide), sI_cell _ _ _ _ (by decide), sI_cell _ _ _ _ (by decide)]
      exact hR x hx
    · rw [sI_cell _ _ _ _ (by decide), sI_cell _ _ _ _ (by decide), sI_same]; rfl
    · rw [sI_cell _ _ _ _ (by decide), sI_same]; rfl
    · rw [sI_same]; rfl
  have hdo : ∀ j d : Nat, d + j = m → ∀ u, F2 (AMw w) (LMw w) v u → RM w n (gone A F n w d).1 u → u.2.1 167 w = chc A F w d → k_M_makes_71 (nI w) (nI (gone A F n w d).2) (nI d) u Q := by
    intro j
    induction j with
    | zero =>
      intro d e u f hR hc
      obtain rfl : d = m := e
      refine s_M_makes_71 ?_
      rw [(hM.fw f).2.1, if_neg (nI_nlt (Nat.le_refl _) (by omega)), ix_nI (by omega)]
      exact ⟨ib_nI hw (by decide), hend u f hR hc⟩
    | succ j ih =>
      intro d e u f hR hc
      have hMu := hM.fw f
      refine s_M_makes_71 ?_
      rw [hMu.2.1, if_pos (nI_lt (by omega) (by omega)), bt_eq w hw d (by omega), ix_nI (by omega)]
      refine ⟨ib_nI hw (by decide), ?_⟩
      have e0 : gone A F n w (d + 1) = if bt w d = true then (roomsc A F n d (nI (gone A F n w d).2) 6 (gone A F n w d).1, (gone A F n w d).2 + 1) else gone A F n w d := rfl
      have e1 : chc A F w (d + 1) = chc A F w d * (if bt w d = true then (came A F d).toInt64 else (100 - came A F d).toInt64) := rfl
      have ih := ih (d + 1) (by omega)
      rw [e0, e1] at ih
      by_cases b : bt w d = true
      · rw [if_pos b, if_pos b] at ih
        have eb : (if (if bt w d = true then (1 : Int32) else 0) = 1 then true else false) = true := by rw [if_pos b]; rfl
        rw [eb, if_pos rfl]
        refine M_came hA (by omega) hMu (hT.fw f) fun u1 f1 => s_M_makes_125 ?_
        rw [ix_nI (by omega), if_neg (by decide), hc]
        refine ⟨ib_nI hw (by decide), ?_⟩
        have f2 : F2 (AMw w) (LMw w) v (sJ u1 167 w (chc A F w d * (came A F d).toInt64)) := (f.tr f1.zw).sJ (Or.inr ⟨rfl, rfl⟩) _
        have hR2 : RM w n (gone A F n w d).1 (sJ u1 167 w (chc A F w d * (came A F d).toInt64)) := fun c hc => hR.z f1 c hc
        have hM2 := hM.fw f2
        have h167 : (sJ u1 167 w (chc A F w d * (came A F d).toInt64)).2.1 167 w = chc A F w d * (came A F d).toInt64 := by rw [sJ_at, if_pos ⟨rfl, rfl⟩]
        generalize sJ u1 167 w (chc A F w d * (came A F d).toInt64) = u2 at f2 hR2 hM2 h167 ⊢
        have hfin : ∀ u3, F2 (AMw w) (LMw w) v u3 → RM w n (roomsc A F n d (nI (gone A F n w d).2) 6 (gone A F n w d).1) u3 → u3.2.1 167 w = chc A F w d * (came A F d).toInt64 → k_M_makes_146 (nI w) (nI (gone A F n w d).2) (nI d) (bI true) u3 Q := fun u3 f3 hR3 h3 => by
          refine s_M_makes_146 ?_
          rw [show bI (if bI true = 0 then false else true) = 1 from rfl, nI_1, nI_1]
          exact ih u3 f3 hR3 h3
        rw [hM2.1]
        by_cases hn0 : n = 0
        · rw [if_neg (by rw [hn0]; decide)]
          exact hfin u2 f2 (fun c hc => absurd hc (by omega)) h167
        · rw [if_pos (by rw [show (0 : Int32) = nI 0 from rfl]; exact nI_lt (by omega) (by omega))]
          refine M_goes hA hw (by omega) (by omega) (b := 1 + 36 * d) (by omega) (DB_gone hA d (by omega)) hM2 (hT.fw f2) hR2 fun u3 f3 hR3 => ?_
          exact hfin u3 (f2.tr f3.aw) hR3 (by rw [f3.2.1 _ _ (by unfold LMz; omega)]; exact h167)
      · rw [if_neg b, if_neg b] at ih
        have eb : (if (if bt w d = true then (1 : Int32) else 0) = 1 then true else false) = false := by rw [if_neg b]; rfl
        rw [eb, if_neg (by decide)]
        refine M_came hA (by omega) hMu (hT.fw f) fun u1 f1 => s_M_makes_125 ?_
        rw [ix_nI (by omega), if_pos (show bI false = 0 from rfl), hc]
        refine ⟨ib_nI hw (by decide), s_M_makes_146 ?_⟩
        rw [show bI (if bI false = 0 then false else true) = 0 from rfl, Int32.add_zero, nI_1]
        exact ih _ ((f.tr f1.zw).sJ (Or.inr ⟨rfl, rfl⟩) _) (fun c hc => hR.z f1 c hc) (by rw [sJ_at, if_pos ⟨rfl, rfl⟩])
  have hbeg : ∀ j c : Nat, c + j = n → ∀ u, F2 (AMw w) (LMw w) v u → RM w c (gone A F n w 0).1 u → k_M_makes_2 (nI w) (nI c) u Q := by
    intro j
    induction j with
    | zero =>
      intro c e u f hR
      obtain rfl : c = n := e
      refine s_M_makes_2 ?_
      rw [(hM.fw f).1, if_neg (nI_nlt (Nat.le_refl _) (by omega)), ix_nI (by omega)]
      refine ⟨ib_nI hw (by decide), ?_⟩
      exact hdo m 0 (by omega) _ (f.sJ (Or.inr ⟨rfl, rfl⟩) _) (fun x hx => hR x hx) (by rw [sJ_at, if_pos ⟨rfl, rfl⟩]; rfl)
    | succ j ih =>
      intro c e u f hR
      obtain ⟨c1, c2, c3, c4⟩ := hM.fw f
      obtain ⟨q0, q1, q2, q3⟩ := c3 c (by omega)
      refine s_M_makes_2 ?_
      rw [c1, if_pos (nI_lt (by omega) (by omega)), six, ix_nI (by omega), ix_nI (by omega)]
      refine ⟨ib_nI (by omega) (by decide), ib_nI (by omega) (by decide), ?_⟩
      have e160 : ∀ x, (sI u 165 (6 * w + c) x).1 160 c = cse A c := fun x => by rw [sI_cell _ _ _ _ (by decide)]; exact q2
      rw [e160, q1, q2, nI_1]
      have hself := (hA.2.2.1 c (by omega)).2.2.1
      have e60 : (60 : Int32) * cse A c = if cse A c = 1 then 60 else 0 := by
        obtain ⟨x, hx, e⟩ := nI_of3 (x := cse A c) (n := 2) hself.1 (by omega)
        rw [e]
        have : x = 0 ∨ x = 1 := by omega
        rcases this with rfl | rfl <;> decide
      rw [e60]
      refine ih (c + 1) (by omega) _ ((f.sI (by unfold AMw; omega) _).sI (by unfold AMw; omega) _) fun x hx => ?_
      by_cases e3 : x = c
      · subst e3
        rw [sI_same, sI_cell _ _ _ _ (by omega), sI_same]
        exact ⟨rfl, rfl⟩
      · rw [sI_slot _ _ _ _ (by omega), sI_slot _ _ _ _ (by omega), sI_slot _ _ _ _ (by omega), sI_slot _ _ _ _ (by omega)]
        exact hR x (by omega)
  exact s_M_makes (hbeg n 0 (by omega) v (F2.rf _ _ _) fun c hc => absurd hc (Nat.not_lt_zero _))
end MM
