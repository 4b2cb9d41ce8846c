-- what stands between the calls
def INV (v : Vv) : Prop := (HO v ∧ KE v ∧ TC v ∧ TP v) ∧ (RU v ∧ RS v ∧ TRS v ∧ CACHE v)
theorem INV.w {v : Vv} (h : INV v) : INW v := ⟨h.1.1, h.2.2.2.1, h.2.1, h.2.2.2.2⟩
/-- cells that texts, tape and sheets stand on -/
def OTX (i k : Nat) : Prop := i = 0 ∧ k ≠ 3 ∨ i = 107 ∨ i = 157 ∨ TXs i ∨ i = 154 ∧ (k = 3 ∨ k = 6)
def OTS (i : Nat) : Prop := 146 ≤ i ∧ i ≤ 153 ∨ 173 ≤ i ∧ i ≤ 176
theorem TC.on {v w : Vv} (h : TC v) (f : ∀ i k, OTX i k → w.1 i k = v.1 i k) : TC w := by
  obtain ⟨t, a, b, c⟩ := h
  exact ⟨t, a, by rw [f _ _ (by unfold OTX; omega)]; exact b, by rw [f _ _ (by unfold OTX; omega)]; exact c⟩
theorem TP.on {v w : Vv} (h : TP v) (f : ∀ i k, OTX i k → w.1 i k = v.1 i k) : TP w := by
  obtain ⟨t, a, b, c, d⟩ := h
  refine ⟨t, a, by rw [f _ _ (by unfold OTX; omega)]; exact b, by rw [f _ _ (by unfold OTX; omega)]; exact c, fun i hi => ?_⟩
  rw [f 157 _ (by unfold OTX; omega), f 107 _ (by unfold OTX; omega)]
  exact d i hi
theorem TRS.on {v w : Vv} (h : TRS v) (hc : TC v) (f : ∀ i k, OTX i k → w.1 i k = v.1 i k) : TRS w := fun t ht => by
  rw [f 0 5 (by unfold OTX; omega)] at ht
  obtain ⟨B, n, e0, e1, e2, q⟩ := h t ht
  obtain ⟨c, ⟨-, c6⟩, c5, -⟩ := hc
  rw [c5, nI_tI (by omega)] at ht
  exact ⟨B, n, e0, e1, e2, q.at fun i k z => f i k (Or.inr (Or.inr (Or.inr (Or.inl (TX_s (by omega) z)))))⟩
theorem RS.on {v w : Vv} (h : RS v) (f : ∀ i k, OTS i → w.1 i k = v.1 i k) : RS w := fun s hs => by
  have h1 := h s hs
  unfold RS1 at h1 ⊢
  rw [f 173 s (by unfold OTS; omega), f (146 + 2 * s) 1 (by unfold OTS; omega), f 174 s (by unfold OTS; omega), f 175 s (by unfold OTS; omega), f (146 + 2 * s) 2 (by unfold OTS; omega)]
  refine ⟨h1.1.imp id fun ⟨a1, a2, a3, a4, a5⟩ => ⟨a1, a2, a3, a4, fun i hi => ?_⟩, h1.2⟩
  rw [f 176 _ (by unfold OTS; omega), f (146 + 2 * s + 1) _ (by unfold OTS; omega)]
  exact a5 i hi
/-- what an image stands on -/
def OIM (i k : Nat) : Prop := 92 ≤ i ∧ i ≤ 105 ∨ i = 171 ∨ i = 172 ∨ i = 154 ∧ 42 ≤ k ∧ k ≤ 44 ∨ i = 0 ∧ k = 3
theorem KE.on {v w : Vv} (h : KE v) (f : ∀ i k, OIM i k → w.1 i k = v.1 i k) (g : ∀ d : Nat, (d : Int) < (v.1 74 3).toInt → w.1 162 d = v.1 162 d) (e : (v.1 74 3).toInt ≤ (w.1 74 3).toInt) : KE w := by
  rcases h with ⟨a, b⟩ | ⟨a, n, m, c, d⟩
  · exact Or.inl ⟨by rw [f _ _ (by unfold OIM; omega)]; exact a, by rw [f _ _ (by unfold OIM; omega)]; exact b⟩
  · exact Or.inr ⟨by rw [f _ _ (by unfold OIM; omega)]; exact a, n, m, RH_kept (fun i k q => f i k (by unfold OIM; omega)) (fun d hd => g d (by omega)) c, by omega⟩
theorem HO.on {v w : Vv} (h : HO v) (f : ∀ i k, CH i k → w.1 i k = v.1 i k) : HO w := by
  obtain ⟨n, m, h⟩ := h
  exact ⟨n, m, RH_house f h⟩
theorem RU.on {v w : Vv} (h : RU v) (f : ∀ i k, (i = 0 ∨ 92 ≤ i ∧ i ≤ 105) → w.1 i k = v.1 i k) (e : (w.1 74 4).toInt < (v.1 0 5).toInt) : RU w := by
  unfold RU at h ⊢
  rw [f 0 5 (by omega), f 0 3 (by omega), f 92 4 (by omega)]
  exact ⟨e, h.2⟩
theorem CACHE.no {v : Vv} (h : v.1 1 12 = 1) : CACHE v := fun z => by rw [h] at z; exact absurd z (by decide)
theorem INV.q {v w : Vv} (h : INV v) (f : FQ v w) (c : CACHE w) : INV w := by
  obtain ⟨⟨h1, h2, h3, h4⟩, h5, h6, h7, h8⟩ := h
  have lo : ∀ i k, (74 ≤ i ∧ i ≤ 107 ∧ ¬ (88 ≤ i ∧ i ≤ 91) ∨ TXs i ∨ i = 0 ∨ 146 ≤ i ∧ i ≤ 153 ∨ i = 154 ∧ (k < 16 ∨ 40 ≤ k) ∨ 155 ≤ i ∧ i ≤ 164 ∨ 171 ≤ i) → w.1 i k = v.1 i k := fun i k q => f i k fun z => by
    unfold AQu AWK at z
    rcases z with (z | z) | z
    · have := AZ_w z
      unfold AZ at z
      unfold TXs at q
      omega
    · unfold TXs at q; omega
    · unfold TXs at q; omega
  have ot : ∀ i k, OTX i k → w.1 i k = v.1 i k := fun i k q => lo i k (by
    unfold OTX at q
    rcases q with q | q | q | q | q
    · omega
    · omega
    · omega
    · exact Or.inr (Or.inl q)
    · omega)
  exact ⟨⟨h1.on fun i k q => lo i k (by unfold CH at q; omega), h2.on (fun i k q => lo i k (by unfold OIM at q; omega)) (fun d _ => lo _ _ (by omega)) (by rw [lo _ _ (by omega)]; omega), h3.on ot, h4.on ot⟩, h5.on (fun i k q => lo i k (by omega)) (by rw [lo 74 4 (by omega)]; exact h5.1), h6.on (fun i k q => lo i k (by unfold OTS at q; omega)), h7.on h3 ot, c⟩
theorem INV.ah {v w : Vv} (h : INV v) (ho : HO w) (f : FX AH v w) (st : w.1 1 12 = 1) (g : ∀ d : Nat, (d : Int) < (v.1 74 3).toInt → w.1 162 d = v.1 162 d) (e : (v.1 74 3).toInt ≤ (w.1 74 3).toInt) (r : (w.1 74 4).toInt < (v.1 0 5).toInt) : INV w := by
  obtain ⟨⟨h1, h2, h3, h4⟩, h5, h6, h7, h8⟩ := h
  have ot : ∀ i k, OTX i k → w.1 i k = v.1 i k := fun i k q => f.1 i k (by unfold AH; unfold OTX TXs at q; omega)
  exact ⟨⟨ho, h2.on (fun i k q => f.1 i k (by unfold AH; unfold OIM at q; omega)) g e, h3.on ot, h4.on ot⟩, h5.on (fun i k q => f.1 i k (by unfold AH; omega)) r, h6.on (fun i k q => f.1 i k (by unfold AH; unfold OTS at q; omega)), h7.on h3 ot, CACHE.no st⟩
section OPS
variable {a b c d n : Int32} {v : Vv} {Q : Int32 → Int32 → Vv → Prop} {QL : Int64 → Int64 → Vv → Prop}
theorem i_clock (h : INV v) (hQ : ∀ r w, INV w → Q r r w) : m_P_clock a b v (fun r v1 => m_M_clock a b v1 (fun r' v2 => Q r r' v2)) := by
  have hk := stp_keeps h.1.1 a b
  have hfin : INV (stp v a b) := by
    obtain ⟨k1, k2, k3, k4, k5, k6⟩ := hk
    rcases k3 with k3 | k3
    · exact h.ah k1 k2 k3 (fun d _ => k6 d) (by rw [k4]; omega) (by rw [k5]; exact h.2.1.1)
    · rw [k3]; exact h
  have h1 := P_clock_ov (z := v) (y := v) (a := a) (b := b) h.1.1 (Q := fun r v1 => m_M_clock a b v1 (fun r' v2 => Q r r' v2)) (M_clock_ov (z := v) (y := stp v a b) h.1.1 (by rw [ov_self]; exact hQ _ _ hfin))
  rw [ov_self] at h1
  exact h1
theorem i_doer (h : INV v) (hQ : ∀ r w, INV w → Q r r w) : m_P_doer a b c v (fun r v1 => m_M_doer a b c v1 (fun r' v2 => Q r r' v2)) :=
  doer_step h.1.1 (fun r => hQ r v h) fun r w n m h1 h2 f g st cr => hQ r w (h.ah ⟨_, _, h2⟩ f st (fun d hd => g d (by
    have e : v.1 74 3 = nI m := h1.2.2.1.1
    rw [e, nI_tI (by have := h1.1.2; omega)] at hd
    omega)) (by
    have e1 : v.1 74 3 = nI m := h1.2.2.1.1
    have e2 : w.1 74 3 = nI (m + 1) := h2.2.2.1.1
    have := h2.1.2
    rw [e1, e2, nI_tI (by omega), nI_tI (by omega)]
    omega) (by
    have e : w.1 74 4 = v.1 74 4 := cr
    rw [e]; exact h.2.1.1))
theorem i_set (h : INV v) (hQ : ∀ r w, INV w → Q r r w) : m_P_set a b c v (fun r v1 => m_M_set a b c v1 (fun r' v2 => Q r r' v2)) :=
  set_step h.1.1 (fun r => hQ r v h) fun r w n m h1 h2 f g st cr => hQ r w (h.ah ⟨_, _, h2⟩ f st (fun d _ => g d) (by
    have e1 : v.1 74 3 = nI m := h1.2.2.1.1
    have e2 : w.1 74 3 = nI m := h2.2.2.1.1
    rw [e1, e2]
    omega) (by
    have e : w.1 74 4 = v.1 74 4 := cr
    rw [e]; exact h.2.1.1))
theorem i_told (h : INV v) (hQ : ∀ r w, INV w → Q r r w) : m_P_told a b v (fun r v1 => m_M_told a b v1 (fun r' v2 => Q r r' v2)) := told_all h.w fun r w f c => hQ r w (h.q f c)
theorem i_feed (h : INV v) (hQ : ∀ r w, INV w → Q r r w) : m_P_feed a v (fun r v1 => m_M_feed a v1 (fun r' v2 => Q r r' v2)) := by
  refine feed_step h.1.2.2.2 (fun r => hQ r v h) fun r w tp f => hQ r w ?_
  obtain ⟨⟨h1, h2, h3, h4⟩, h5, h6, h7, h8⟩ := h
  refine ⟨⟨h1.on fun i k q => f.1 i k (by unfold AT; unfold CH at q; omega), h2.on (fun i k q => f.1 i k (by unfold AT; unfold OIM at q; omega)) (fun d _ => f.1 _ _ (by unfold AT; omega)) (by rw [f.1 74 3 (by unfold AT; omega)]; omega), ?_, tp⟩, ?_, h6.on (fun i k q => f.1 i k (by unfold AT; unfold OTS at q; omega)), ?_, h8.kw ⟨fun i k q => f.1 i k (by unfold AT; unfold TXs at q; omega), fun k => by rw [f.2], by rw [f.2], by rw [f.2]⟩⟩
  · obtain ⟨t, q1, q2, q3⟩ := h3
    exact ⟨t, q1, by rw [f.1 _ _ (by unfold AT; omega)]; exact q2, by rw [f.1 _ _ (by unfold AT; omega)]; exact q3⟩
  · unfold RU at h5 ⊢
    rw [f.1 74 4 (by unfold AT; omega), f.1 0 5 (by unfold AT; omega), f.1 0 3 (by unfold AT; omega), f.1 92 4 (by unfold AT; omega)]
    exact h5
  · intro t ht
    rw [f.1 0 5 (by unfold AT; omega)] at ht
    obtain ⟨B, n, e0, e1, e2, q⟩ := h7 t ht
    obtain ⟨c, ⟨-, c6⟩, c5, -⟩ := h3
    rw [c5, nI_tI (by omega)] at ht
    exact ⟨B, n, e0, e1, e2, q.at fun i k z => f.1 i k (by have := TX_s (by omega) z; unfold AT; unfold TXs at this; omega)⟩
theorem i_text (h : INV v) (hQ : ∀ r w, INV w → Q r r w) : m_P_text v (fun r v1 => m_M_text v1 (fun r' v2 => Q r r' v2)) := by
  refine text_step h.1.2.2.1 h.1.2.2.2 h.2.2.2.1 (fun r => hQ r v h) fun c r w c6 hc tc tp trs le f => hQ r w ?_
  obtain ⟨⟨h1, h2, h3, h4⟩, h5, h6, h7, h8⟩ := h
  have lo : ∀ i k, (1 ≤ i ∧ i ≤ 107 ∨ i = 0 ∧ k = 3 ∨ 146 ≤ i ∧ i ≤ 153 ∨ i = 154 ∧ (k = 4 ∨ k = 11 ∨ k = 15 ∨ 42 ≤ k) ∨ 157 ≤ i) → w.1 i k = v.1 i k := fun i k q => f.1 i k (by unfold AX; omega)
  refine ⟨⟨h1.on fun i k q => lo i k (by unfold CH at q; omega), h2.on (fun i k q => lo i k (by unfold OIM at q; omega)) (fun d _ => lo _ _ (by omega)) (by rw [lo 74 3 (by omega)]; omega), tc, tp⟩, ?_, h6.on (fun i k q => lo i k (by unfold OTS at q; omega)), trs, fun h0 => ?_⟩
  · unfold RU at h5 ⊢
    rw [lo 74 4 (by omega), lo 0 3 (by omega), lo 92 4 (by omega)]
    exact ⟨by omega, fun z => by have := h5.2 z; omega⟩
  · rw [lo 1 12 (by omega)] at h0
    obtain ⟨A, F, n, m, hA, hC, ⟨t, B, x, e0, e1, e2, ht, hr, h22, hT, hF⟩, g1, g2, g3, g4⟩ := h8 h0
    have htc : t < c := by
      have := h5.1
      rw [hr, hc, nI_tI (by omega), nI_tI (by omega)] at this
      omega
    refine ⟨A, F, n, m, hA, hC.at hA fun i k p q => lo i k (by omega), ⟨t, B, x, e0, e1, e2, ht, by rw [lo 74 4 (by omega)]; exact hr, f.2.2.trans h22, hT.at fun i k q => f.1 i k (by unfold AX; unfold TX at q; omega), hF⟩, by rw [lo 1 10 (by omega)]; exact g1, by rw [f.2.1 1 11 (by omega)]; exact g2, fun d hd => by rw [lo 72 d (by omega)]; exact g3 d hd, fun y hy => ?_⟩
    have hy32 := bt_w hA.2.1 hy
    exact (g4 y hy).on hy32 (fun i k q => lo i k (by omega)) (f.2.1 71 y (by omega))
theorem i_force (h : INV v) (hQ : ∀ r w, INV w → Q r r w) : m_P_force a v (fun r v1 => m_M_force a v1 (fun r' v2 => Q r r' v2)) :=
  force_step h.1.1 h.1.2.2.1 (fun r => hQ r v h) fun r w ho f g st lt e => hQ r w (h.ah ho f st (fun d _ => g d) (by rw [e]; omega) lt)
theorem i_at (h : INV v) (hQ : ∀ r w, INV w → Q r r w) : m_P_at a b c v (fun r v1 => m_M_at a b c v1 (fun r' v2 => Q r r' v2)) := at_step h.w fun r w f c => hQ r w (h.q f c)
theorem i_right (h : INV v) (hQ : ∀ r w, INV w → Q r r w) : m_P_right a b v (fun r v1 => m_M_right a b v1 (fun r' v2 => Q r r' v2)) := right_step h.w fun r w f c => hQ r w (h.q f c)
theorem i_world (h : INV v) (hQ : ∀ r w, INV w → QL r r w) : m_P_world a v (fun r v1 => m_M_world a v1 (fun r' v2 => QL r r' v2)) := world_step h.w fun r w f c => hQ r w (h.q f c)
theorem i_odds (h : INV v) (hQ : ∀ r w, INV w → QL r r w) : m_P_odds a b v (fun r v1 => m_M_odds a b v1 (fun r' v2 => QL r r' v2)) := odds_step h.w fun r w f c => hQ r w (h.q f c)
theorem i_time (h : INV v) (hQ : ∀ r w, INV w → Q r r w) : m_P_time a v (fun r v1 => m_M_time a v1 (fun r' v2 => Q r r' v2)) := time_step h.w fun r w f c => hQ r w (h.q f c)
theorem i_sure (h : INV v) (hQ : ∀ r w, INV w → QL r r w) : m_P_sure a v (fun r v1 => m_M_sure a v1 (fun r' v2 => QL r r' v2)) := sure_step h.w fun r w f c => hQ r w (h.q f c)
theorem i_look (h : INV v) (hQ : ∀ r w, INV w → Q r r w) : m_P_look v (fun r v1 => m_M_look v1 (fun r' v2 => Q r r' v2)) := look_step h.w fun r w f c => hQ r w (h.q f c)
theorem i_fewest (h : INV v) (hQ : ∀ r w, INV w → Q r r w) : m_P_fewest v (fun r v1 => m_M_fewest v1 (fun r' v2 => Q r r' v2)) := fewest_step h.w fun r w f c => hQ r w (h.q f c)
theorem i_ask (h : INV v) (hQ : ∀ r w, INV w → Q r r w) : m_P_ask v (fun r v1 => m_M_ask v1 (fun r' v2 => Q r r' v2)) := ask_step h.w fun r w f c => hQ r w (h.q f c)
theorem i_say (h : INV v) (hQ : ∀ r w, INV w → Q r r w) : m_P_say a v (fun r v1 => m_M_say a v1 (fun r' v2 => Q r r' v2)) := say_step h.w fun r w f c => hQ r w (h.q f c)
theorem i_bad (h : INV v) (hQ : ∀ r w, INV w → QL r r w) : m_P_bad a v (fun r v1 => m_M_bad a v1 (fun r' v2 => QL r r' v2)) := bad_step h.w fun r w f c => hQ r w (h.q f c)
theorem i_late (h : INV v) (hQ : ∀ r w, INV w → Q r r w) : m_P_late a v (fun r v1 => m_M_late a v1 (fun r' v2 => Q r r' v2)) := late_step h.w fun r w f c => hQ r w (h.q f c)
theorem i_drawn (h : INV v) (hQ : ∀ r w, INV w → Q r r w) : m_P_drawn a v (fun r v1 => m_M_drawn a v1 (fun r' v2 => Q r r' v2)) := drawn_step h.w fun r w f c => hQ r w (h.q f c)
theorem i_chance (h : INV v) (hQ : ∀ r w, INV w → QL r r w) : m_P_chance a b c v (fun r v1 => m_M_chance a b c v1 (fun r' v2 => QL r r' v2)) := chance_step h.w fun r w f c => hQ r w (h.q f c)
theorem i_tells (h : INV v) (hQ : ∀ r w, INV w → Q r r w) : m_P_tellsBack a b v (fun r v1 => m_M_tellsBack a b v1 (fun r' v2 => Q r r' v2)) := tells_step h.w h.2.2.1 fun r w f c => hQ r w (h.q f c)
theorem i_live (h : INV v) (hQ : ∀ r w, INV w → Q r r w) : m_P_live a v (fun r v1 => m_M_live a v1 (fun r' v2 => Q r r' v2)) := by
  refine live_step h.w (fun r => hQ r v h) fun r w ho f st => hQ r w ?_
  obtain ⟨⟨h1, h2, h3, h4⟩, h5, h6, h7, h8⟩ := h
  have lo : ∀ i k, (74 ≤ i ∧ i ≤ 76 ∨ 83 ≤ i ∧ i ≤ 87 ∨ 92 ≤ i ∧ i ≤ 107 ∨ TXs i ∨ i = 0 ∨ 146 ≤ i ∧ i ≤ 153 ∨ i = 154 ∧ (k < 16 ∨ 40 ≤ k) ∨ i = 155 ∨ i = 156 ∨ i = 157 ∨ i = 162 ∨ 171 ≤ i) → w.1 i k = v.1 i k := fun i k q => f i k fun z => by
    unfold ALV AQu AWK at z
    rcases z with ((z | z) | z) | z
    · have := AZ_w z
      unfold AZ at z
      unfold TXs at q
      omega
    · unfold TXs at q; omega
    · unfold TXs at q; omega
    · unfold TXs at q; omega
  have ot : ∀ i k, OTX i k → w.1 i k = v.1 i k := fun i k q => lo i k (by
    unfold OTX at q
    rcases q with q | q | q | q | q
    · omega
    · omega
    · omega
    · exact Or.inr (Or.inr (Or.inr (Or.inl q)))
    · omega)
  exact ⟨⟨ho, h2.on (fun i k q => lo i k (by unfold OIM at q; omega)) (fun d _ => lo _ _ (by omega)) (by rw [lo 74 3 (by omega)]; omega), h3.on ot, h4.on ot⟩, h5.on (fun i k q => lo i k (by omega)) (by rw [lo 74 4 (by omega)]; exact h5.1), h6.on (fun i k q => lo i k (by unfold OTS at q; omega)), h7.on h3 ot, CACHE.no st⟩
theorem i_film (h : INV v) (hQ : ∀ r w, INV w → Q r r w) : m_P_film a b v (fun r v1 => m_M_film a b v1 (fun r' v2 => Q r r' v2)) := by
  refine film_step h.w h.2.2.1 (fun r => hQ r v h) fun r w f rs ca => hQ r w ?_
  obtain ⟨⟨h1, h2, h3, h4⟩, h5, h6, h7, h8⟩ := h
  have lo : ∀ i k, (74 ≤ i ∧ i ≤ 107 ∧ ¬ (88 ≤ i ∧ i ≤ 91) ∨ TXs i ∨ i = 0 ∨ i = 154 ∧ (k < 16 ∨ 40 ≤ k) ∨ 155 ≤ i ∧ i ≤ 164 ∨ 171 ≤ i ∧ i ≤ 172) → w.1 i k = v.1 i k := fun i k q => f i k fun z => by
    unfold AFM AQu AWK at z
    rcases z with ((z | z) | z) | z
    · have := AZ_w z
      unfold AZ at z
      unfold TXs at q
      omega
    · unfold TXs at q; omega
    · unfold TXs at q; omega
    · unfold TXs at q; omega
  have ot : ∀ i k, OTX i k → w.1 i k = v.1 i k := fun i k q => lo i k (by
    unfold OTX at q
    rcases q with q | q | q | q | q
    · omega
    · omega
    · omega
    · exact Or.inr (Or.inl q)
    · omega)
  exact ⟨⟨h1.on fun i k q => lo i k (by unfold CH at q; omega), h2.on (fun i k q => lo i k (by unfold OIM at q; omega)) (fun d _ => lo _ _ (by omega)) (by rw [lo 74 3 (by omega)]; omega), h3.on ot, h4.on ot⟩, h5.on (fun i k q => lo i k (by omega)) (by rw [lo 74 4 (by omega)]; exact h5.1), rs, h7.on h3 ot, ca⟩
theorem i_image (h : INV v) (hQ : ∀ r w, INV w → Q r r w) : m_P_image v (fun r v1 => m_M_image v1 (fun r' v2 => Q r r' v2)) := by
  refine image_step h.1.1 fun r w ke f e => hQ r w ?_
  obtain ⟨⟨h1, h2, h3, h4⟩, h5, h6, h7, h8⟩ := h
  have ot : ∀ i k, OTX i k → w.1 i k = v.1 i k := fun i k q => f.1 i k (by unfold AK; unfold OTX TXs at q; omega)
  refine ⟨⟨h1.on fun i k q => f.1 i k (by unfold AK; unfold CH at q; omega), ke, h3.on ot, h4.on ot⟩, ?_, h6.on (fun i k q => f.1 i k (by unfold AK; unfold OTS at q; omega)), h7.on h3 ot, h8.kw ⟨fun i k q => f.1 i k (by unfold AK; unfold TXs at q; omega), fun k => by rw [f.2], by rw [f.2], by rw [f.2]⟩⟩
  unfold RU at h5 ⊢
  rw [f.1 74 4 (by unfold AK; omega), f.1 0 5 (by unfold AK; omega), e.2]
  exact ⟨h5.1, fun _ => h5.1⟩
theorem i_back (h : INV v) (hQ : ∀ r w, INV w → Q r r w) : m_P_back v (fun r v1 => m_M_back v1 (fun r' v2 => Q r r' v2)) := by
  refine back_step h.1.1 h.1.2.1 (fun r => hQ r v h) fun r w ho ke f st e k3 => hQ r w ?_
  obtain ⟨⟨h1, h2, h3, h4⟩, h5, h6, h7, h8⟩ := h
  have ot : ∀ i k, OTX i k → w.1 i k = v.1 i k := fun i k q => f.1 i k (by unfold AH; unfold OTX TXs at q; omega)
  exact ⟨⟨ho, ke, h3.on ot, h4.on ot⟩, h5.on (fun i k q => f.1 i k (by unfold AH; omega)) (by rw [e]; exact h5.2 k3), h6.on (fun i k q => f.1 i k (by unfold AH; unfold OTS at q; omega)), h7.on h3 ot, CACHE.no st⟩
theorem i_count (h : INV v) (hQ : ∀ r w, INV w → Q r r w) : m_P_count a v (fun r v1 => m_M_count a v1 (fun r' v2 => Q r r' v2)) := count_step h.1.1 h.1.2.2.1 h.1.2.2.2 fun r => hQ r v h
theorem INV.fs {w : Vv} (h : INV v) (rs : RS w) (f : FS v w) : INV w := by
  obtain ⟨⟨h1, h2, h3, h4⟩, h5, h6, h7, h8⟩ := h
  have ot : ∀ i k, OTX i k → w.1 i k = v.1 i k := fun i k q => f.1 i k (by unfold OTX TXs at q; omega)
  exact ⟨⟨h1.on fun i k q => f.1 i k (by unfold CH at q; omega), h2.on (fun i k q => f.1 i k (by unfold OIM at q; omega)) (fun d _ => f.1 _ _ (by omega)) (by rw [f.1 74 3 (by omega)]; omega), h3.on ot, h4.on ot⟩, h5.on (fun i k q => f.1 i k (by omega)) (by rw [f.1 74 4 (by omega)]; exact h5.1), rs, h7.on h3 ot, h8.kw ⟨fun i k q => f.1 i k (by unfold TXs at q; omega), fun k => by rw [f.2], by rw [f.2], by rw [f.2]⟩⟩
theorem i_sheet (h : INV v) (hQ : ∀ r w, INV w → Q r r w) : m_P_sheet a b c v (fun r v1 => m_M_sheet a b c v1 (fun r' v2 => Q r r' v2)) := sheet_step h.2.2.1 fun r w rs f => hQ r w (h.fs rs f)
theorem i_cell (h : INV v) (hQ : ∀ r w, INV w → Q r r w) : m_P_cell a b c v (fun r v1 => m_M_cell a b c v1 (fun r' v2 => Q r r' v2)) := cell_step h.2.2.1 fun r w rs f => hQ r w (h.fs rs f)
theorem i_copy (h : INV v) (hQ : ∀ r w, INV w → Q r r w) : m_P_copy a b c d n v (fun r v1 => m_M_copy a b c d n v1 (fun r' v2 => Q r r' v2)) := copy_step h.2.2.1 fun r w rs f => hQ r w (h.fs rs f)
theorem i_clocks (h : INV v) (hQ : ∀ r w, INV w → Q r r w) : m_P_clocks a b c d v (fun r v1 => m_M_clocks a b c d v1 (fun r' v2 => Q r r' v2)) :=
  clocks_step h.1.1 h.2.2.1 (fun r => hQ r v h) fun r w ho f st e3 e4 g => hQ r w (by
    rcases st with st | st
    · exact h.ah ho f st (fun d _ => g d) (by rw [e3]; omega) (by rw [e4]; exact h.2.1.1)
    · rw [st]; exact h)
theorem i_taken (h : INV v) (hQ : ∀ r w, INV w → Q r r w) : m_P_taken a b v (fun r v1 => m_M_taken a b v1 (fun r' v2 => Q r r' v2)) := taken_step h.1.1 fun r => hQ r v h
end OPS
