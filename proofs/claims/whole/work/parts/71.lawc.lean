-- the law's calls
section LawC
variable {fu : Nat} {w3 : Nat → Int64}
theorem z01 : zz_in (0 : Int32) 1 = true := by decide
theorem cl0 : (0 : Int32).toNatClampNeg = 0 := by decide
theorem law_text {x1 : Int64} {n : Nat} {a t : Nat → Int32} {th : Int32} (hfu : 100 < fu) (hJ : JT n a t) :
    ∃ u w, f_Law_text fu 1200 1 x1 0 (nI n) a w3 = some u ∧ f_Mod_text fu 1200 x1 (nI n) th t = some w ∧ w.2.2.1 = u.1 ∧ (u.1 = 0 → u.2.2.2 (0 : Int32).toNatClampNeg = w.1.toInt64) ∧ ∃ n', u.2.1 = nI n' ∧ w.2.1 = nI n' ∧ JT n' u.2.2.1 w.2.2.2 := by
  obtain ⟨u, w, h1, h2, h3, h4, h5, n', h6, h7, h8⟩ := text_eq (x1 := x1) (th := th) hfu hJ
  unfold f_Law_text
  rw [h1]
  show ∃ u' w', (if u.1 = 0 then _ else _) = some u' ∧ _
  rcases h4 with q | q | q
  · rw [if_pos q, if_pos z01]
    refine ⟨_, w, rfl, h2, ?_, fun _ => ?_, n', h6, h7, h8⟩
    · rw [← h3]; exact q
    · rw [← h5 q]; exact pk_uLs (f := w3) (k := (0 : Int32).toNatClampNeg) (x := u.2.1.toInt64)
  · rw [if_neg (by rw [q]; decide), if_pos q]
    refine ⟨_, w, rfl, h2, ?_, fun e => absurd e (show ¬ (1 : Int32) = 0 by decide), n', h6, h7, h8⟩
    rw [← h3]; exact q
  · rw [if_neg (by rw [q]; decide), if_neg (by rw [q]; decide)]
    refine ⟨_, w, rfl, h2, ?_, fun e => absurd e (show ¬ (2 : Int32) = 0 by decide), n', h6, h7, h8⟩
    rw [← h3]; exact q
theorem law_read {n : Nat} {a b : Nat → Int32} {x1 : Int32} (hfu : 6000 < fu) (hJ : JT n a b)
    {rc nc oc dc fr ex ih : Int32} {ds : Nat → Int32} {ql : Int64} {qp qm qn qd : Int32} {qa qb : Nat → Int32} {th aM bM lM rM tw at0 dgs pw gd : Int32} {aa ba L R : Nat → Int32} :
    ∃ u w, f_Law_read fu 1200 1200 128 128 1 x1 rc nc oc 0 (nI n) a dc fr ex ih ds ql qp qm qn qa qd qb w3 = some u ∧ f_Mod_read fu 1200 520 520 520 520 x1 (nI n) th rc nc oc aM bM lM rM tw at0 dgs pw gd b aa ba L R = some w ∧
      w.2.2.1 = u.1 ∧ (u.1 = 0 → u.2.2.2.2.2.2.2.2.2.2.2.2.2.2.2.2.2.2 (0 : Int32).toNatClampNeg = w.1) ∧ u.2.1 = w.2.2.2.1 ∧ u.2.2.1 = w.2.2.2.2.1 ∧ u.2.2.2.1 = w.2.2.2.2.2.1 ∧ u.2.2.2.2.1 = 0 ∧ u.2.2.2.2.2.1 = 0 ∧ w.2.1 = 0 := by
  obtain ⟨u, h1, w, h2, h3, h4, h5, h6, h7, h8, h9, h10, h11⟩ := read_eq (fu := fu) (x1 := x1) (rc := rc) (nc := nc) (oc := oc) (dc := dc) (fr := fr) (ex := ex) (ih := ih) (ds := ds) (ql := ql) (qp := qp) (qm := qm) (qn := qn) (qd := qd) (qa := qa) (qb := qb) (th := th) (aM := aM) (bM := bM) (lM := lM) (rM := rM) (tw := tw) (at0 := at0) (dgs := dgs) (pw := pw) (gd := gd) (aa := aa) (ba := ba) (L := L) (R := R) hJ.1 hJ.2 hfu
  unfold f_Law_read
  rw [h1]
  show ∃ u' w', (if u.1 = 0 then _ else _) = some u' ∧ _
  rcases h5 with q | q | q
  · rw [if_pos q, if_pos z01]
    refine ⟨_, w, rfl, h2, ?_, fun _ => ?_, h6, h7, h8, h9, h10, h11⟩
    · rw [← h3]; exact q
    · rw [← h4 q]; exact pk_uLs (f := w3) (k := (0 : Int32).toNatClampNeg) (x := u.2.1)
  · rw [if_neg (by rw [q]; decide), if_pos q]
    refine ⟨_, w, rfl, h2, ?_, fun e => absurd e (show ¬ (1 : Int32) = 0 by decide), h6, h7, h8, h9, h10, h11⟩
    rw [← h3]; exact q
  · rw [if_neg (by rw [q]; decide), if_neg (by rw [q]; decide)]
    refine ⟨_, w, rfl, h2, ?_, fun e => absurd e (show ¬ (2 : Int32) = 0 by decide), h6, h7, h8, h9, h10, h11⟩
    rw [← h3]; exact q
theorem law_count {x1 rc nc oc th : Int32} {n g e : Nat} (hge : g ≤ e) :
    ∃ u w, f_Law_count 1 x1 rc nc oc 0 (nI n) (nI g) (nI e) w3 = some u ∧ f_Mod_count x1 (nI n) (nI e) (nI g) th rc nc oc = some w ∧ w.2 = u.1 ∧ (u.1 = 0 → u.2 (0 : Int32).toNatClampNeg = w.1.toInt64) := by
  obtain ⟨u, w, h1, h2, h3, h4, h5⟩ := count_eq (x1 := x1) (rc := rc) (nc := nc) (oc := oc) (th := th) (n := n) hge
  unfold f_Law_count
  rw [h1]
  show ∃ u' w', (if u.1 = 0 then _ else _) = some u' ∧ _
  rcases h4 with q | q
  · rw [if_pos q, if_pos z01]
    refine ⟨_, w, rfl, h2, ?_, fun _ => ?_⟩
    · rw [← h3]; exact q
    · rw [← h5 q]; exact pk_uLs (f := w3) (k := (0 : Int32).toNatClampNeg) (x := u.2.toInt64)
  · rw [if_neg (by rw [q]; decide), if_pos q]
    refine ⟨_, w, rfl, h2, ?_, fun e => absurd e (show ¬ (1 : Int32) = 0 by decide)⟩
    rw [← h3]; exact q
/-- write leaves what is written alike -/
theorem tl_JW {S : List Nat} {k k' : Int32} {a t : Nat → Int32} (hS : S.length ≤ 32) (h1 : tl S k a) (h2 : tl S k' t) : JW 0 S.length a t := by
  refine ⟨Nat.zero_le _, hS, fun i hi => ?_⟩
  rw [h1.2.1 i hi, h2.2.1 i hi]
  refine ⟨rfl, ?_⟩
  have e : S.getD i 0 = S[i] := by simp [List.getD, hi]
  have := h1.2.2 S[i] (List.getElem_mem hi)
  rw [e, un_nI (by omega)]
  exact this
theorem law_write {x1 : Int64} {x3 : Int32} {ws we nb ev pw rs us hs ss dc pt : Int32} {num : Int64} {wa ra ua ha sa rev : Nat → Int32} {laid gone thr aM bM fM lM rM tw pw' : Int32} {wa' aa ba fa L R : Nat → Int32} (hfu : 2000 < fu) :
    ∃ u w e, f_RT_write fu 32 40 40 40 40 20 x1 x3 ws we wa nb ev num pw rs ra us ua hs ha ss sa dc pt rev = some u ∧ f_Mod_write fu 40 520 520 520 520 520 x1 x3 laid gone thr aM bM fM lM rM tw pw' wa' aa ba fa L R = some w ∧ u.1 = w.1 ∧ u.2.1 = nI 0 ∧ u.2.2.1 = nI e ∧ w.2.1 = nI e ∧ w.2.2.1 = nI 0 ∧ JW 0 e u.2.2.2.1 w.2.2.2.2.2.2.2.2.2.2.2.1 := by
  obtain ⟨S, hS, ⟨u, hu, u1, u2, u3⟩, ⟨w, hw, w1, w2, w3, w4⟩⟩ := write_eq (x1 := x1) (x3 := x3) (ws := ws) (we := we) (nb := nb) (ev := ev) (pw := pw) (rs := rs) (us := us) (hs := hs) (ss := ss) (dc := dc) (pt := pt) (num := num) (wa := wa) (ra := ra) (ua := ua) (ha := ha) (sa := sa) (rev := rev) (laid := laid) (gone := gone) (thr := thr) (aM := aM) (bM := bM) (fM := fM) (lM := lM) (rM := rM) (tw := tw) (pw' := pw') (wa' := wa') (aa := aa) (ba := ba) (fa := fa) (L := L) (R := R) hfu
  exact ⟨u, w, S.length, hu, hw, by rw [u1, w1], by rw [u2]; rfl, u3.1, w4.1, by rw [w2]; rfl, tl_JW hS u3 w4⟩
end LawC
/-- class and reference stand alike -/
def JJ (rc nc oc ts te : Int32) (ta : Nat → Int32) (ws we : Int32) (wa : Nat → Int32) (len laid gone were none beyond : Int32) (tt wt : Nat → Int32) : Prop :=
  rc = were ∧ nc = none ∧ oc = beyond ∧ ts = 0 ∧ (∃ n, te = nI n ∧ len = nI n ∧ JT n ta tt) ∧ ∃ g e, ws = nI g ∧ we = nI e ∧ gone = nI g ∧ laid = nI e ∧ JW g e wa wt
