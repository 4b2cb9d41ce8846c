-- the reference's reader keeps to the grammar, and says what was read
def NMS (v : Vv) (f : Nat → Int32) : Prop := ∀ k, k < 6 → v.1 154 (16 + k) = f k
theorem NMS.fm {v w : Vv} {f : Nat → Int32} (h : NMS v f) (m : FM AP v w) : NMS w f := fun k hk => by rw [m.1 _ _ (by unfold AP; omega)]; exact h k hk
def F_comp (o : Nat) (v : Vv) (Q : Int32 → Vv → Prop) : Prop := F_added o v (fun x v7 => m_M_isSign 60 v7 (fun x8 v9 => if x8 = true then F_not_77 o x v9 Q else m_M_isSign 61 v9 (fun x11 v12 => if x11 = true then F_not_77 o x v12 Q else Q x v12)))
def N (g o : Nat) (x : Int32) (v : Vv) (Q : Int32 → Vv → Prop) : Prop :=
  if g = 0 then F_atom o v Q else if g = 1 then F_comp o v Q else if g = 2 then F_not o v Q else if g = 3 then F_term o v Q else if g = 4 then F_added o v Q else if g = 5 then F_both o v Q else if g = 6 then F_either o v Q
  else if g = 7 then F_term_5 o x v Q else if g = 8 then F_added_5 o x v Q else if g = 9 then F_both_5 o x v Q else F_either_5 o x v Q
def MR (B : Nat → Int32) (n o : Nat) (f : Nat → Int32) (v : Vv) (r : Out) (Q : Int32 → Vv → Prop) : Prop :=
  (∀ k, r = bad k → ∀ w x, FM AP v w → FB w (st B n k) → Q x w) ∧
  ∀ k e, r = ok k e → ∀ w, FM AP v w → MS B n w k → w.1 154 28 = nI o → Q (e.2 f) w
theorem MR.mk_bad {B : Nat → Int32} {n o k : Nat} {f : Nat → Int32} {v : Vv} {Q : Int32 → Vv → Prop} (h : ∀ w x, FM AP v w → FB w (st B n k) → Q x w) : MR B n o f v (bad k) Q := ⟨fun k2 q => by rw [← bad_inj q]; exact h, fun k2 e q => absurd q.symm ok_bad⟩
theorem MR.mk_ok {B : Nat → Int32} {n o k : Nat} {e : Ex} {f : Nat → Int32} {v : Vv} {Q : Int32 → Vv → Prop} (h : ∀ w, FM AP v w → MS B n w k → w.1 154 28 = nI o → Q (e.2 f) w) : MR B n o f v (ok k e) Q := ⟨fun k2 q => absurd q ok_bad, fun k2 e2 q => by obtain ⟨rfl, rfl⟩ := ok_inj q; exact h⟩
theorem MR.bad {B : Nat → Int32} {n o k : Nat} {f : Nat → Int32} {v : Vv} {Q : Int32 → Vv → Prop} (h : MR B n o f v (bad k) Q) {w : Vv} {x : Int32} (m : FM AP v w) (hb : FB w (st B n k)) : Q x w := h.1 k rfl w x m hb
theorem MR.ok {B : Nat → Int32} {n o k : Nat} {e : Ex} {f : Nat → Int32} {v : Vv} {Q : Int32 → Vv → Prop} (h : MR B n o f v (ok k e) Q) {w : Vv} (m : FM AP v w) (hs : MS B n w k) (h28 : w.1 154 28 = nI o) : Q (e.2 f) w := h.2 k e rfl w m hs h28
theorem MR.on {B : Nat → Int32} {n o : Nat} {f : Nat → Int32} {v w : Vv} {r : Out} {Q : Int32 → Vv → Prop} (h : MR B n o f v r Q) (m : FM AP v w) : MR B n o f w r Q := ⟨fun k q w2 x m2 => h.1 k q w2 x (m.tr m2), fun k e q w2 m2 => h.2 k e q w2 (m.tr m2)⟩
def MMot (B : Nat → Int32) (n : Nat) (f : Nat → Int32) (o g : Nat) (e : Ex) (j : Nat) (r : Out) : Prop := ∀ (v : Vv) (Q : Int32 → Vv → Prop), MS B n v j → v.1 154 28 = nI o → o ≤ 5 → NMS v f → MR B n o f v r Q → N g o (e.2 f) v Q
theorem FB.m28 {w : Vv} {q : Nat} (h : FB w q) (x : Int32) : FB (sI w 154 28 x) q := ⟨by rw [sI_slot _ _ _ _ (by decide)]; exact h.1, by rw [sI_slot _ _ _ _ (by decide)]; exact h.2⟩
theorem fm28 (w : Vv) (x : Int32) : FM AP w (sI w 154 28 x) := (FM.rf _ _).sI (by unfold AP; omega) _
theorem sub28 {o : Nat} (ho : o < 5) : nI (o + 1) - 1 = nI o := by rw [show (1 : Int32) = nI 1 from rfl, nI_sub (by omega) (by omega)]; rfl
theorem sg40 : sg 40 := by unfold sg; decide
theorem sg41 : sg 41 := by unfold sg; decide
theorem sg42 : sg 42 := by unfold sg; decide
theorem sg43 : sg 43 := by unfold sg; decide
theorem sg45 : sg 45 := by unfold sg; decide
theorem sg59 : sg 59 := by unfold sg; decide
theorem sg60 : sg 60 := by unfold sg; decide
theorem sg61 : sg 61 := by unfold sg; decide
theorem worth32 {W : Int64} {k : Nat} (h : W.toInt = k) (hk : k < 10000) : W.toInt32 = nI k := by
  rw [i_eq, Int64.toInt_toInt32, h, nI_tI (by omega), Int.bmod_eq_of_le (by omega) (by omega)]
theorem ne12 {x : Int32} (h : 0 ≤ x.toInt) : x ≠ -1 ∧ x ≠ -2 := ⟨fun z => by rw [z] at h; revert h; decide, fun z => by rw [z] at h; revert h; decide⟩
theorem lit12 {x y : Int32} (h : x = y) (hy : y ≠ -1 ∧ y ≠ -2) : x ≠ -1 ∧ x ≠ -2 := by rw [h]; exact hy
theorem isOp12 {l : Nat} {x : Int32} (h : isOp l x) : x ≠ -1 ∧ x ≠ -2 := by
  unfold isOp at h
  rcases h with ⟨-, q⟩ | ⟨-, q | q⟩ | ⟨-, q⟩ | ⟨-, q⟩ <;> (rw [q]; decide)
/-- what stands behind the brackets and the minus -/
theorem atom_tail_leaf {B : Nat → Int32} {n j o : Nat} {f : Nat → Int32} {v : Vv} {Q : Int32 → Vv → Prop} (hS : MS B n v j) (h28 : v.1 154 28 = nI o) (ho : o ≤ 5) (hN : NMS v f) (a : isLf (tk B n j)) (hR : MR B n o f v (ok (j + 1) (lf (tk B n j))) Q) :
    if v.1 154 29 = (0 : Int32) then (if v.1 154 25 = (2 : Int32) then m_M_next v (fun v25 => Q ((v.2.1 154 27).toInt32) v25) else F_atom_123 o 0 v Q) else F_atom_123 o 0 v Q := by
  have hge : 0 ≤ (tk B n j).toInt := by unfold isLf at a; omega
  have hfin : ∀ w, FM AN v w → MS B n w (j + 1) → Q ((lf (tk B n j)).2 f) w := fun w m s => hR.ok m.np s (by rw [m.1 _ _ (by unfold AN; omega)]; exact h28)
  rw [if_pos hS.2.1]
  have hname : tk B n j = wrd (ltr B (st B n j) (en B n (st B n j))) → v.1 154 25 = 1 → F_atom_123 o 0 v Q := fun e1 e2 => by
    refine f_atom_123 ho ?_
    rw [if_pos hS.2.1, if_pos e2]
    have hlt := wrd_lt (ltr B (st B n j) (en B n (st B n j)))
    rw [← e1] at hlt
    have hlt6 : (tk B n j).toInt < 6 := by unfold isLf at a; omega
    refine MS_name hS (fun k hk q => ?_) fun q => ?_
    · rw [if_pos hS.2.1]
      refine MS_next hS (ne12 hge) fun w m s => ?_
      have e3 : (lf (tk B n j)).2 f = v.1 154 (16 + k) := by
        show (if tk B n j < 100 then f (ix (tk B n j)) else tk B n j - 100) = _
        rw [q, if_pos (by rw [show (100 : Int32) = nI 100 from rfl]; exact nI_lt (by omega) (by decide)), ix_nI (by omega), hN k hk]
      rw [← e3]
      exact hfin w m s
    · obtain ⟨k, hk, hk2⟩ := nI_of3 (x := tk B n j) (n := 6) hge hlt6
      exact absurd hk2 (q k hk)
  rcases MS_kind hS with ⟨e1, e2⟩ | ⟨e1, e2, -⟩ | ⟨k, e1, e2, e3, e4⟩ | ⟨e1, e2, -⟩ | ⟨e1, e2⟩
  · rw [e1] at hge; exact absurd hge (by decide)
  · rw [e2, if_neg (by decide)]
    exact hname e1 e2
  · rw [e3, if_pos rfl]
    refine MS_next hS (ne12 hge) fun w m s => ?_
    have e5 : (lf (tk B n j)).2 f = (v.2.1 154 27).toInt32 := by
      show (if tk B n j < 100 then f (ix (tk B n j)) else tk B n j - 100) = _
      rw [e2, if_neg (by rw [show (100 : Int32) = nI 100 from rfl]; exact nI_nlt (by omega) (by omega)), worth32 e4 e1, show (100 : Int32) = nI 100 from rfl, nI_sub (by omega) (by omega)]
      congr 1
      omega
    rw [← e5]
    exact hfin w m s
  · exfalso
    have := sg_range e1
    unfold isLf at a
    omega
  · rw [e1] at hge; exact absurd hge (by decide)
theorem atom_tail_bad {B : Nat → Int32} {n j o : Nat} {f : Nat → Int32} {v : Vv} {Q : Int32 → Vv → Prop} (hS : MS B n v j) (ho : o ≤ 5) (a : ¬ isLf (tk B n j)) (hR : MR B n o f v (bad j) Q) :
    if v.1 154 29 = (0 : Int32) then (if v.1 154 25 = (2 : Int32) then m_M_next v (fun v25 => Q ((v.2.1 154 27).toInt32) v25) else F_atom_123 o 0 v Q) else F_atom_123 o 0 v Q := by
  rw [if_pos hS.2.1]
  have hname : F_atom_123 o 0 v Q := by
    refine f_atom_123 ho ?_
    rw [if_pos hS.2.1]
    have hf : F_atom_157 o 0 v Q := f_atom_157 ho (MS_fail hS fun w m b => hR.bad m b)
    by_cases e2 : v.1 154 25 = 1
    · rw [if_pos e2]
      refine MS_name hS (fun k hk q => ?_) fun _ w m b => ?_
      · refine absurd (Or.inr ?_) a
        rw [q, nI_tI (by omega)]
        omega
      · rw [if_neg (by rw [b.1]; decide)]
        exact hR.bad m b
    · rw [if_neg e2]
      exact hf
  rcases MS_kind hS with ⟨e1, e2⟩ | ⟨e1, e2, -⟩ | ⟨k, e1, e2, e3, e4⟩ | ⟨e1, e2, -⟩ | ⟨e1, e2⟩
  · rw [e2, if_neg (by decide)]; exact hname
  · rw [e2, if_neg (by decide)]; exact hname
  · refine absurd (Or.inl ?_) a
    rw [e2, nI_tI (by omega)]
    omega
  · rw [e2, if_neg (by decide)]; exact hname
  · rw [e2, if_neg (by decide)]; exact hname
theorem atom_skip {B : Nat → Int32} {n j o : Nat} {v : Vv} {Q : Int32 → Vv → Prop} (hS : MS B n v j) (ho : o ≤ 5) (h40 : tk B n j ≠ 40) (h45 : tk B n j ≠ 45) (h : if v.1 154 29 = (0 : Int32) then (if v.1 154 25 = (2 : Int32) then m_M_next v (fun v25 => Q ((v.2.1 154 27).toInt32) v25) else F_atom_123 o 0 v Q) else F_atom_123 o 0 v Q) : F_atom o v Q := by
  by_cases c : o = 5
  · subst c
    refine s_M_atom5 (MS_sign hS sg45 (fun q => absurd q h45) fun _ => ?_)
    rw [if_neg (by decide)]
    refine MS_sign hS sg40 (fun q => absurd q h40) fun _ => ?_
    rw [if_neg (by decide)]
    exact h
  · refine f_atom (by omega) (MS_sign hS sg45 (fun q => absurd q h45) fun _ => ?_)
    rw [if_neg (by decide)]
    refine MS_sign hS sg40 (fun q => absurd q h40) fun _ => ?_
    rw [if_neg (by decide)]
    exact h
theorem lf_ne {x : Int32} (h : isLf x) : x ≠ 40 ∧ x ≠ 45 := ⟨fun z => not_lf (Or.inl z) h, fun z => not_lf (Or.inr z) h⟩
theorem N_ch {l o : Nat} (hl : l < 4) (ho : o ≤ 5) {x : Int32} {v : Vv} {Q : Int32 → Vv → Prop} (h : N (sub l) o x v (fun y w => N (7 + l) o y w Q)) : N (3 + l) o x v Q := by
  have : l = 0 ∨ l = 1 ∨ l = 2 ∨ l = 3 := by omega
  rcases this with rfl | rfl | rfl | rfl
  · exact f_term ho h
  · exact f_added ho h
  · exact f_both ho h
  · exact f_either ho h
theorem N_lp_bad {l o : Nat} (hl : l < 4) (ho : o ≤ 5) {x : Int32} {v : Vv} {q : Nat} (hb : FB v q) {Q : Int32 → Vv → Prop} (h : Q x v) : N (7 + l) o x v Q := by
  have : l = 0 ∨ l = 1 ∨ l = 2 ∨ l = 3 := by omega
  rcases this with rfl | rfl | rfl | rfl
  · refine f_term_5 ho (isSign_bad hb.1 ?_)
    rw [if_neg (by decide)]; exact h
  · refine f_added_5 ho (isSign_bad hb.1 ?_)
    rw [if_neg (by decide)]
    refine isSign_bad hb.1 ?_
    rw [if_neg (by decide)]; exact h
  · refine f_both_5 ho (isWord_bad hb.1 ?_)
    rw [if_neg (by decide)]; exact h
  · refine f_either_5 ho (isWord_bad hb.1 ?_)
    rw [if_neg (by decide)]; exact h
theorem worth_is {B : Nat → Int32} {n j : Nat} {v : Vv} (hS : MS B n v j) (hs : sg (tk B n j)) : v.2.1 154 27 = (tk B n j).toInt64 := by
  have hr := sg_range hs
  rcases MS_kind hS with ⟨e1, e2⟩ | ⟨e1, e2, -⟩ | ⟨k, e1, e2, e3, e4⟩ | ⟨e1, e2, e3⟩ | ⟨e1, e2⟩
  · rw [e1] at hr; exact absurd hr.1 (by decide)
  · have := wrd_lt (ltr B (st B n j) (en B n (st B n j)))
    rw [← e1] at this
    omega
  · rw [e2, nI_tI (by omega)] at hr; omega
  · exact e3
  · rw [e1] at hr; exact absurd hr.1 (by decide)
/-- one more joint of a chain -/
theorem N_lp {B : Nat → Int32} {n j l o : Nat} {v : Vv} (hS : MS B n v j) (hl : l < 4) (ho : o ≤ 5) {x : Int32} {Q : Int32 → Vv → Prop} (h1 : isOp l (tk B n j) → ∀ w, FM AN v w → MS B n w (j + 1) → N (sub l) o x w (fun y w2 => N (7 + l) o (joinV x (tk B n j) y) w2 Q)) (h2 : ¬ isOp l (tk B n j) → Q x v) : N (7 + l) o x v Q := by
  have : l = 0 ∨ l = 1 ∨ l = 2 ∨ l = 3 := by omega
  rcases this with rfl | rfl | rfl | rfl
  · refine f_term_5 ho (MS_sign hS sg42 (fun q => ?_) fun q => ?_)
    · rw [if_pos rfl]
      refine MS_next hS (lit12 q (by decide)) fun w m s => ?_
      have h1 := h1 (Or.inl ⟨rfl, q⟩) w m s
      rw [q] at h1
      exact h1
    · rw [if_neg (by decide)]
      exact h2 fun z => by unfold isOp at z; rcases z with z | z | z | z; exact q z.2; exact absurd z.1 (by decide); exact absurd z.1 (by decide); exact absurd z.1 (by decide)
  · have hop : tk B n j = 43 ∨ tk B n j = 45 → F_added_23 o x v Q := fun q => by
      have h1 := h1 (Or.inr (Or.inl ⟨rfl, q⟩))
      refine f_added_23 ho ?_
      rcases q with q | q
      · rw [worth_is hS (by rw [q]; exact sg43), if_pos (by rw [q]; decide)]
        refine f_added_39 ho (MS_next hS (lit12 q (by decide)) fun w m s => ?_)
        have h1 := h1 w m s
        rw [q] at h1
        exact h1
      · rw [worth_is hS (by rw [q]; exact sg45), if_neg (by rw [q]; decide)]
        refine f_added_39 ho (MS_next hS (lit12 q (by decide)) fun w m s => ?_)
        have h1 := h1 w m s
        rw [q] at h1
        exact h1
    refine f_added_5 ho (MS_sign hS sg43 (fun q => ?_) fun q => ?_)
    · rw [if_pos rfl]
      exact hop (Or.inl q)
    · rw [if_neg (by decide)]
      refine MS_sign hS sg45 (fun q => ?_) fun q2 => ?_
      · rw [if_pos rfl]
        exact hop (Or.inr q)
      · rw [if_neg (by decide)]
        exact h2 fun z => by unfold isOp at z; rcases z with z | z | z | z; exact absurd z.1 (by decide); exact z.2.elim q q2; exact absurd z.1 (by decide); exact absurd z.1 (by decide)
  · refine f_both_5 ho (MS_isWord hS (k := 10) (by decide) (fun q => ?_) fun q => ?_)
    · rw [if_pos rfl]
      refine MS_next hS (lit12 q (by decide)) fun w m s => ?_
      have h1 := h1 (Or.inr (Or.inr (Or.inl ⟨rfl, q⟩))) w m s
      rw [q] at h1
      exact h1
    · rw [if_neg (by decide)]
      exact h2 fun z => by unfold isOp at z; rcases z with z | z | z | z; exact absurd z.1 (by decide); exact absurd z.1 (by decide); exact q z.2; exact absurd z.1 (by decide)
  · refine f_either_5 ho (MS_isWord hS (k := 9) (by decide) (fun q => ?_) fun q => ?_)
    · rw [if_pos rfl]
      refine MS_next hS (lit12 q (by decide)) fun w m s => ?_
      have h1 := h1 (Or.inr (Or.inr (Or.inr ⟨rfl, q⟩))) w m s
      rw [q] at h1
      exact h1
    · rw [if_neg (by decide)]
      exact h2 fun z => by unfold isOp at z; rcases z with z | z | z | z; exact absurd z.1 (by decide); exact absurd z.1 (by decide); exact absurd z.1 (by decide); exact q z.2
theorem M_comp {B : Nat → Int32} {n j o : Nat} {v : Vv} (hS : MS B n v j) (ho : o ≤ 5) {x : Int32} {Q : Int32 → Vv → Prop} (h1 : (tk B n j = 60 ∨ tk B n j = 61) → ∀ w, FM AN v w → MS B n w (j + 1) → F_added o w (fun y w2 => Q (joinV x (tk B n j) y) w2)) (h2 : tk B n j ≠ 60 → tk B n j ≠ 61 → Q x v) :
    m_M_isSign 60 v (fun x8 v9 => if x8 = true then F_not_77 o x v9 Q else m_M_isSign 61 v9 (fun x11 v12 => if x11 = true then F_not_77 o x v12 Q else Q x v12)) := by
  have hop : tk B n j = 60 ∨ tk B n j = 61 → F_not_77 o x v Q := fun q => by
    have h1 := h1 q
    refine f_not_77 ho ?_
    rcases q with q | q
    · rw [worth_is hS (by rw [q]; exact sg60), if_pos (by rw [q]; decide)]
      refine f_not_93 ho (MS_next hS (lit12 q (by decide)) fun w m s => ?_)
      have h1 := h1 w m s
      rw [q] at h1
      exact h1
    · rw [worth_is hS (by rw [q]; exact sg61), if_neg (by rw [q]; decide)]
      refine f_not_93 ho (MS_next hS (lit12 q (by decide)) fun w m s => ?_)
      have h1 := h1 w m s
      rw [q] at h1
      exact h1
  refine MS_sign hS sg60 (fun q => ?_) fun q => ?_
  · rw [if_pos rfl]
    exact hop (Or.inl q)
  · rw [if_neg (by decide)]
    refine MS_sign hS sg61 (fun q => ?_) fun q2 => ?_
    · rw [if_pos rfl]
      exact hop (Or.inr q)
    · rw [if_neg (by decide)]
      exact h2 q q2
theorem M_parse {B : Nat → Int32} {n o g : Nat} {f : Nat → Int32} {e : Ex} {j : Nat} {r : Out} (h : Pr (tk B n) o g e j r) : MMot B n f o g e j r := by
  refine Pr_rec (P := MMot B n f) ?_ ?_ ?_ ?_ ?_ ?_ ?_ ?_ ?_ ?_ ?_ ?_ ?_ ?_ ?_ ?_ ?_ ?_ ?_ ?_ ?_ h
  · intro o j a v Q hS h28 ho hN hR
    exact atom_skip hS ho (lf_ne a).1 (lf_ne a).2 (atom_tail_leaf hS h28 ho hN a hR)
  · intro o j a b v Q hS h28 ho hN hR
    obtain rfl : o = 5 := by omega
    refine s_M_atom5 (MS_sign hS sg45 (fun q => ?_) fun q45 => ?_)
    · rw [if_pos rfl]
      exact MS_opens hS h28 ho (lit12 q (by decide)) (fun z => absurd z (by decide)) fun _ w m b => hR.bad m b
    · rw [if_neg (by decide)]
      refine MS_sign hS sg40 (fun q => ?_) fun q40 => ?_
      · rw [if_pos rfl]
        exact MS_opens hS h28 ho (lit12 q (by decide)) (fun z => absurd z (by decide)) fun _ w m b => hR.bad m b
      · rw [if_neg (by decide)]
        exact atom_tail_bad hS ho a hR
  · intro o j a b c1 d1 v Q hS h28 ho hN hR
    exact atom_skip hS ho c1 d1 (atom_tail_bad hS ho a hR)
  -- brackets
  · intro o j k a b p v Q hS h28 ho hN hR
    refine f_atom (by omega) (MS_sign hS sg45 (fun q => absurd (q.symm.trans a) (by decide)) fun _ => ?_)
    rw [if_neg (by decide)]
    refine MS_sign hS sg40 (fun _ => ?_) fun q => absurd a q
    rw [if_pos rfl]
    refine MS_opens hS h28 ho (lit12 a (by decide)) (fun _ w m s h28b => ?_) fun z => by omega
    rw [if_pos rfl]
    refine p.2 w _ s h28b (by omega) (hN.fm m) (MR.mk_bad fun w2 x m2 b2 => ?_)
    refine isSign_bad b2.1 ?_
    rw [if_neg (by decide)]
    refine fail_bad b2.1 (f_atom_71 (by omega) ?_)
    rw [if_neg (by rw [(b2.m28 _).1]; decide)]
    exact hR.bad ((m.tr m2).tr (fm28 _ _)) (b2.m28 _)
  · intro o j k e a b p c1 v Q hS h28 ho hN hR
    refine f_atom (by omega) (MS_sign hS sg45 (fun q => absurd (q.symm.trans a) (by decide)) fun _ => ?_)
    rw [if_neg (by decide)]
    refine MS_sign hS sg40 (fun _ => ?_) fun q => absurd a q
    rw [if_pos rfl]
    refine MS_opens hS h28 ho (lit12 a (by decide)) (fun _ w m s h28b => ?_) fun z => by omega
    rw [if_pos rfl]
    refine p.2 w _ s h28b (by omega) (hN.fm m) (MR.mk_ok fun w2 m2 s2 h28c => ?_)
    refine MS_sign s2 sg41 (fun q => absurd q c1) fun _ => ?_
    rw [if_neg (by decide)]
    refine MS_fail s2 fun w3 m3 b3 => f_atom_71 (by omega) ?_
    rw [if_neg (by rw [(b3.m28 _).1]; decide)]
    exact hR.bad (((m.tr m2).tr m3).tr (fm28 _ _)) (b3.m28 _)
  · intro o j k e a b p c1 v Q hS h28 ho hN hR
    refine f_atom (by omega) (MS_sign hS sg45 (fun q => absurd (q.symm.trans a) (by decide)) fun _ => ?_)
    rw [if_neg (by decide)]
    refine MS_sign hS sg40 (fun _ => ?_) fun q => absurd a q
    rw [if_pos rfl]
    refine MS_opens hS h28 ho (lit12 a (by decide)) (fun _ w m s h28b => ?_) fun z => by omega
    rw [if_pos rfl]
    refine p.2 w _ s h28b (by omega) (hN.fm m) (MR.mk_ok fun w2 m2 s2 h28c => ?_)
    refine MS_sign s2 sg41 (fun _ => ?_) fun q => absurd c1 q
    rw [if_pos rfl]
    refine f_atom_71 (by omega) ?_
    rw [h28c, sub28 b, if_pos (MS_28 s2 _).2.1]
    refine MS_next (MS_28 s2 _) (lit12 c1 (by decide)) fun w3 m3 s3 => ?_
    refine hR.ok (((m.tr m2).tr (fm28 _ _)).tr m3.np) s3 ?_
    rw [m3.1 _ _ (by unfold AN; omega), sI_same]
  -- minus
  · intro o j k a b p v Q hS h28 ho hN hR
    refine f_atom (by omega) (MS_sign hS sg45 (fun _ => ?_) fun q => absurd a q)
    rw [if_pos rfl]
    refine MS_opens hS h28 ho (lit12 a (by decide)) (fun _ w m s h28b => ?_) fun z => by omega
    rw [if_pos rfl]
    refine p.2 w _ s h28b (by omega) (hN.fm m) (MR.mk_bad fun w2 x m2 b2 => ?_)
    exact hR.bad ((m.tr m2).tr (fm28 _ _)) (b2.m28 _)
  · intro o j k e a b p v Q hS h28 ho hN hR
    refine f_atom (by omega) (MS_sign hS sg45 (fun _ => ?_) fun q => absurd a q)
    rw [if_pos rfl]
    refine MS_opens hS h28 ho (lit12 a (by decide)) (fun _ w m s h28b => ?_) fun z => by omega
    rw [if_pos rfl]
    refine p.2 w _ s h28b (by omega) (hN.fm m) (MR.mk_ok fun w2 m2 s2 h28c => ?_)
    rw [h28c, sub28 b]
    exact hR.ok ((m.tr m2).tr (fm28 _ _)) (MS_28 s2 _) (sI_same _ _ _ _)
  -- comparison
  · intro o j k p v Q hS h28 ho hN hR
    refine p.2 v _ hS h28 ho hN (MR.mk_bad fun w x m b => ?_)
    refine isSign_bad b.1 ?_
    rw [if_neg (by decide)]
    refine isSign_bad b.1 ?_
    rw [if_neg (by decide)]
    exact hR.bad m b
  · intro o j k e p a b v Q hS h28 ho hN hR
    refine p.2 v _ hS h28 ho hN (MR.mk_ok fun w m s h28b => ?_)
    exact M_comp s ho (fun z => absurd z (fun y => y.elim a b)) fun _ _ => hR.ok m s h28b
  · intro o j k e l p a q v Q hS h28 ho hN hR
    refine p.2 v _ hS h28 ho hN (MR.mk_ok fun w m s h28b => ?_)
    refine M_comp s ho (fun _ w2 m2 s2 => ?_) fun z1 z2 => absurd a (fun y => y.elim z1 z2)
    refine q.2 w2 _ s2 (by rw [m2.1 _ _ (by unfold AN; omega)]; exact h28b) ho (hN.fm (m.tr m2.np)) (MR.mk_bad fun w3 x m3 b3 => ?_)
    exact hR.bad ((m.tr m2.np).tr m3) b3
  · intro o j k e l e2 p a q v Q hS h28 ho hN hR
    refine p.2 v _ hS h28 ho hN (MR.mk_ok fun w m s h28b => ?_)
    refine M_comp s ho (fun _ w2 m2 s2 => ?_) fun z1 z2 => absurd a (fun y => y.elim z1 z2)
    refine q.2 w2 _ s2 (by rw [m2.1 _ _ (by unfold AN; omega)]; exact h28b) ho (hN.fm (m.tr m2.np)) (MR.mk_ok fun w3 m3 s3 h28d => ?_)
    exact hR.ok ((m.tr m2.np).tr m3) s3 h28d
  -- denial
  · intro o j r a p v Q hS h28 ho hN hR
    have hc := p.2 v Q hS h28 ho hN hR
    show F_not o v Q
    by_cases c : o = 5
    · subst c
      refine s_M_not5 (MS_isWord hS (k := 11) (by decide) (fun q => absurd q a) fun _ => ?_)
      rw [if_neg (by decide)]
      exact hc
    · refine f_not (by omega) (MS_isWord hS (k := 11) (by decide) (fun q => absurd q a) fun _ => ?_)
      rw [if_neg (by decide)]
      exact hc
  · intro o j a b v Q hS h28 ho hN hR
    obtain rfl : o = 5 := by omega
    refine s_M_not5 (MS_isWord hS (k := 11) (by decide) (fun _ => ?_) fun q => absurd a q)
    rw [if_pos rfl]
    exact MS_opens hS h28 ho (lit12 a (by decide)) (fun z => absurd z (by decide)) fun _ w m b => hR.bad m b
  · intro o j k a b p v Q hS h28 ho hN hR
    refine f_not (by omega) (MS_isWord hS (k := 11) (by decide) (fun _ => ?_) fun q => absurd a q)
    rw [if_pos rfl]
    refine MS_opens hS h28 ho (lit12 a (by decide)) (fun _ w m s h28b => ?_) fun z => by omega
    rw [if_pos rfl]
    refine p.2 w _ s h28b (by omega) (hN.fm m) (MR.mk_bad fun w2 x m2 b2 => ?_)
    exact hR.bad ((m.tr m2).tr (fm28 _ _)) (b2.m28 _)
  · intro o j k e a b p v Q hS h28 ho hN hR
    refine f_not (by omega) (MS_isWord hS (k := 11) (by decide) (fun _ => ?_) fun q => absurd a q)
    rw [if_pos rfl]
    refine MS_opens hS h28 ho (lit12 a (by decide)) (fun _ w m s h28b => ?_) fun z => by omega
    rw [if_pos rfl]
    refine p.2 w _ s h28b (by omega) (hN.fm m) (MR.mk_ok fun w2 m2 s2 h28c => ?_)
    rw [h28c, sub28 b]
    exact hR.ok ((m.tr m2).tr (fm28 _ _)) (MS_28 s2 _) (sI_same _ _ _ _)
  -- chains
  · intro o j k l a p v Q hS h28 ho hN hR
    refine N_ch a ho ?_
    exact p.2 v _ hS h28 ho hN (MR.mk_bad fun w x m b => N_lp_bad a ho b (hR.bad m b))
  · intro o j k l e r a p q v Q hS h28 ho hN hR
    refine N_ch a ho ?_
    exact p.2 v _ hS h28 ho hN (MR.mk_ok fun w m s h28b => q.2 w Q s h28b ho (hN.fm m) (hR.on m))
  · intro o j l e a b v Q hS h28 ho hN hR
    exact N_lp hS a ho (fun z => absurd z b) fun _ => hR.ok (FM.rf _ _) hS h28
  · intro o j k l e a b p v Q hS h28 ho hN hR
    refine N_lp hS a ho (fun _ w m s => ?_) fun z => absurd b z
    have hx := p.2 w (fun y w2 => N (7 + l) o (joinV (e.2 f) (tk B n j) y) w2 Q) s (by rw [m.1 _ _ (by unfold AN; omega)]; exact h28) ho (hN.fm m.np) (MR.mk_bad fun w2 x m2 b2 => N_lp_bad a ho b2 (hR.bad (m.np.tr m2) b2))
    have : l = 0 ∨ l = 1 ∨ l = 2 ∨ l = 3 := by omega
    rcases this with rfl | rfl | rfl | rfl <;> exact hx
  · intro o j k l e e2 r a b p q v Q hS h28 ho hN hR
    refine N_lp hS a ho (fun _ w m s => ?_) fun z => absurd b z
    have hx := p.2 w (fun y w2 => N (7 + l) o (joinV (e.2 f) (tk B n j) y) w2 Q) s (by rw [m.1 _ _ (by unfold AN; omega)]; exact h28) ho (hN.fm m.np) (MR.mk_ok fun w2 m2 s2 h28c => q.2 w2 Q s2 h28c ho (hN.fm (m.np.tr m2)) (hR.on (m.np.tr m2)))
    have : l = 0 ∨ l = 1 ∨ l = 2 ∨ l = 3 := by omega
    rcases this with rfl | rfl | rfl | rfl <;> exact hx
