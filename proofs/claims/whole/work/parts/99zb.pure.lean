section
/-! the top relation: read, place, count; all the steps -/
theorem t_read {m : Nat} {S : zS} {w : jw} (hm : m ≤ 2900) (h4 : 401 ≤ m) (h : zTop m S w) : ∃ nf, zStep m w f_X11_read (f_X12_readF nf) := by
  obtain ⟨a1, a2, a3, a4, a5, a6, a7, a8, a9, a10⟩ := h
  have hx : ∀ x ∈ w.2.2.2 1, x &&& 255 = x := fun x hx => by
    obtain ⟨i, hi⟩ := List.getElem?_of_mem hx
    exact (a5.2.2 i x hi).1
  obtain ⟨_, v0, w1, _, c1, _, c3, _, _, _⟩ := z_readJ (u := w) rfl a5.1 hx a5.2.1 (fun i x hi => (a5.2.2 i x hi).2) a10
  obtain ⟨y1, y2, y3, y4, y5, y6⟩ := c3
  obtain ⟨nf, v, w1', w2, d1, d2, d3, d4, d5, d6⟩ := z_readJ (w := w) (u := w1) rfl a5.1 hx (by rw [y1]; exact a5.2.1) (fun i x hi => by rw [y3 163 (by decide) (by decide) (by decide)]; exact (a5.2.2 i x hi).2) (fun i hi => by rw [y4]; exact a10 i hi)
  rw [c1] at d1
  cases d1
  obtain ⟨x1, x2, x3, x4, x5, x6⟩ := d4
  have I2 : ∀ a, a ≠ 162 → w2.1 a = w1.1 a := x2
  have R2 : ∀ k, w2.2.2.2 k = w1.2.2.2 k := fun k => by rw [x1]
  have tp : zTp w2 w2 := by
    refine ⟨by rw [R2, y6]; exact Nat.zero_le _, by rw [R2, y6, x3]; rfl, fun i x hx => ?_⟩
    rw [R2, y6] at hx
    cases hx
  have ky : zKy w2 := fun i hi => by rw [x6, y4]; exact a10 i hi
  have p9 : w2.1 0 9 = w2.1 162 17 := by rw [I2 0 (by decide)]; exact d5
  refine ⟨nf, v0, w1, w2, c1, d2, ?_⟩
  rcases d6 with ⟨_, e2, e3, e4, e5, e6⟩ | ⟨_, S', e1, e2, e3, e4, e5, e6, e7⟩
  · have n182 : w2.2.1 182 = w.2.1 182 := by rw [e5, y3 182 (by decide) (by decide) (by decide)]
    refine ⟨S, a1, by omega, zCi_fr (fun a ha => by rw [I2 a (by omega), e2 a (by omega) (by omega)]) (fun k k1 _ => by rw [R2, e4 k k1]) a3, by rw [n182]; exact a4, tp, by rw [I2 0 (by decide), e3 10 (by decide), n182]; exact a6, by rw [I2 0 (by decide), e3 11 (by decide), n182]; exact a7, p9, fun i hi => ?_, ky⟩
    exact zSl_fr hi (fun a p1 p2 => by rw [I2 a (by omega), e2 a (by omega) (by omega)]) (fun k p1 p2 => by rw [R2, y5 k p1 p2]) (by rw [e6, y3 191 (by decide) (by decide) (by decide)]) (fun q _ => by rw [x4, y3 192 (by decide) (by decide) (by decide)]) (by rw [n182]) (by rw [n182]) hm (a9 i hi)
  · refine ⟨S', e1, by omega, zCi_fr (fun a ha => I2 a (by omega)) (fun k _ _ => R2 k) e2, e3, tp, by rw [I2 0 (by decide)]; exact e5, by rw [I2 0 (by decide)]; exact e6, p9, fun i hi => ?_, ky⟩
    obtain ⟨f1, f2⟩ := e7 i hi
    exact ⟨by rw [I2 _ (by omega), f1, f2], fun z => absurd f2 z⟩
theorem zTop_up {m : Nat} {S : zS} {w : jw} (hm : m ≤ 2900) (h : zTop m S w) : zTop (m + 1) S w := zTop_fr hm h ⟨rfl, fun _ _ _ => rfl, fun _ _ _ => rfl, rfl, rfl, rfl, rfl, rfl, rfl, rfl, rfl, rfl⟩ h.1 (by have := h.2.1; omega) h.2.2.1 h.2.2.2.1
theorem t_place {m : Nat} {S : zS} {w : jw} (hm : m ≤ 2900) (h : zTop m S w) : zStep m w f_X11_place f_X12_place := by
  refine ⟨w.1 0 9, w, w, rfl, ?_, S, zTop_up hm h⟩
  show some (w.1 162 17, w) = _
  rw [h.2.2.2.2.2.2.2.1]
theorem t_count {m : Nat} {S : zS} {w : jw} (hm : m ≤ 2900) (h : zTop m S w) (a : Int32) : zStep m w (f_X11_count a) (f_X12_count a) := by
  obtain ⟨a1, a2, a3, a4, a5, a6, a7, a8, a9, a10⟩ := h
  obtain ⟨v, e1, e2⟩ := q_count a1 (by omega) a3 a4 a6 a7 a5.2.1.symm (a9 0 (by decide)).1 (a9 1 (by decide)).1 (a9 2 (by decide)).1 a
  exact ⟨v, w, w, e1, e2, S, zTop_up hm ⟨a1, a2, a3, a4, a5, a6, a7, a8, a9, a10⟩⟩
theorem t_feed' {m : Nat} {S : zS} {w : jw} (hm : m ≤ 2900) (h : zTop m S w) (a b c d e : Int32) : zStep m w (f_X11_feed a b c d e) (f_X12_feed a b c d e) := zStep_T hm h (fun wm ht => t_feed ht a b c d e)
theorem t_back' {m : Nat} {S : zS} {w : jw} (hm : m ≤ 2900) (h : zTop m S w) (a : Int32) : zStep m w (f_X11_back a) (f_X12_back a) := zStep_T hm h (fun wm ht => t_back ht a)
theorem t_put' {m : Nat} {S : zS} {w : jw} (hm : m ≤ 2900) (h : zTop m S w) (a b : Int32) : zStep m w (f_X11_put a b) (f_X12_put a b) := zStep_O hm h (fun wm hM => t_put h.1 (by have := h.2.1; omega) h.2.2.1 hM a b)
theorem t_cut' {m : Nat} {S : zS} {w : jw} (hm : m ≤ 2900) (h : zTop m S w) (a : Int32) : zStep m w (f_X11_cut a) (f_X12_cut a) := zStep_O hm h (fun wm hM => t_cut h.1 (by have := h.2.1; omega) h.2.2.1 hM a)
theorem t_has {m : Nat} {S : zS} {w : jw} (hm : m ≤ 2900) (h : zTop m S w) (a b : Int32) : zStep m w (f_X11_has a b) (f_X12_has a b) := zStep_Q hm h (q_has h.1 (by have := h.2.1; omega) a b)
theorem t_value {m : Nat} {S : zS} {w : jw} (hm : m ≤ 2900) (h : zTop m S w) (a b : Int32) : zStep m w (f_X11_value a b) (f_X12_value a b) := zStep_Q hm h (q_value h.1 (by have := h.2.1; omega) a b)
theorem t_since {m : Nat} {S : zS} {w : jw} (hm : m ≤ 2900) (h : zTop m S w) (a b : Int32) : zStep m w (f_X11_since a b) (f_X12_since a b) := zStep_Q hm h (q_since h.1 (by have := h.2.1; omega) a b)
theorem t_many {m : Nat} {S : zS} {w : jw} (hm : m ≤ 2900) (h : zTop m S w) (a b c : Int32) : zStep m w (f_X11_many a b c) (f_X12_many a b c) := zStep_Q hm h (q_many h.1 (by have := h.2.1; omega) a b c)
theorem t_sum {m : Nat} {S : zS} {w : jw} (hm : m ≤ 2900) (h : zTop m S w) (a b c : Int32) : zStep m w (f_X11_sum a b c) (f_X12_sum a b c) := zStep_Q hm h (q_sum h.1 (by have := h.2.1; omega) a b c)
theorem t_nth {m : Nat} {S : zS} {w : jw} (hm : m ≤ 2900) (h : zTop m S w) (a b : Int32) : zStep m w (f_X11_nth a b) (f_X12_nth a b) := zStep_Q hm h (q_nth h.1 (by have := h.2.1; omega) a b)
theorem t_next {m : Nat} {S : zS} {w : jw} (hm : m ≤ 2900) (h : zTop m S w) (a b : Int32) : zStep m w (f_X11_next a b) (f_X12_next a b) := zStep_Q hm h (q_next h.1 (by have := h.2.1; omega) a b)
theorem t_prior {m : Nat} {S : zS} {w : jw} (hm : m ≤ 2900) (h : zTop m S w) (a b : Int32) : zStep m w (f_X11_prior a b) (f_X12_prior a b) := zStep_Q hm h (q_prior h.1 (by have := h.2.1; omega) a b)
theorem t_differ {m : Nat} {S : zS} {w : jw} (hm : m ≤ 2900) (h : zTop m S w) (a b c d : Int32) : zStep m w (f_X11_differ a b c d) (f_X12_differ a b c d) := zStep_Q hm h (q_differ h.1 (by have := h.2.1; omega) a b c d)
theorem t_ever {m : Nat} {S : zS} {w : jw} (hm : m ≤ 2900) (h : zTop m S w) (a b c d : Int32) : zStep m w (f_X11_ever a b c d) (f_X12_ever a b c d) := zStep_Q hm h (q_ever h.1 (by have := h.2.1; omega) a b c d)
theorem t_stay {m : Nat} {S : zS} {w : jw} (hm : m ≤ 2900) (h : zTop m S w) (a b c : Int32) : zStep m w (f_X11_stay a b c) (f_X12_stay a b c) := zStep_Q hm h (q_stay h.1 (by have := h.2.1; omega) a b c)
theorem t_versions {m : Nat} {S : zS} {w : jw} (hm : m ≤ 2900) (h : zTop m S w) (a : Int32) : zStep m w (f_X11_versions a) (f_X12_versions a) := zStep_Q hm h (q_versions h.1 (by have := h.2.1; omega) a)
theorem t_version {m : Nat} {S : zS} {w : jw} (hm : m ≤ 2900) (h : zTop m S w) (a b c : Int32) : zStep m w (f_X11_version a b c) (f_X12_version a b c) := zStep_Q hm h (q_version h.1 (by have := h.2.1; omega) a b c)
theorem t_peak {m : Nat} {S : zS} {w : jw} (hm : m ≤ 2900) (h : zTop m S w) (a b c : Int32) : zStep m w (f_X11_peak a b c) (f_X12_peak a b c) := zStep_Q hm h (q_peak h.1 (by have := h.2.1; omega) a b c)
theorem t_root {m : Nat} {S : zS} {w : jw} (hm : m ≤ 2900) (h : zTop m S w) (a : Int32) : zStep m w (f_X11_root a) (f_X12_root a) := zStep_Q hm h (q_root h.1 a)
theorem t_deep {m : Nat} {S : zS} {w : jw} (hm : m ≤ 2900) (h : zTop m S w) (a : Int32) : zStep m w (f_X11_deep a) (f_X12_deep a) := zStep_Q hm h (q_deep h.1 a)
theorem t_leaf {m : Nat} {S : zS} {w : jw} (hm : m ≤ 2900) (h : zTop m S w) (a b : Int32) : zStep m w (f_X11_leaf a b) (f_X12_leaf a b) := zStep_Q hm h (q_leaf h.1 a b)
theorem t_reads {m : Nat} {S : zS} {w : jw} (hm : m ≤ 2900) (h : zTop m S w) (a b c : Int32) : zStep m w (f_X11_reads a b c) (f_X12_reads a b c) := zStep_Q hm h (q_reads h.1 a b c)
theorem t_thin {m : Nat} {S : zS} {w : jw} (hm : m ≤ 2900) (h : zTop m S w) (a : Int32) : zStep m w (f_X11_thin a) (f_X12_thin a) := zStep_Q hm h (q_thin h.1 a)
theorem t_way {m : Nat} {S : zS} {w : jw} (hm : m ≤ 2900) (h : zTop m S w) (a b c : Int32) : zStep m w (f_X11_way a b c) (f_X12_way a b c) := zStep_Q hm h (q_way h.1 a b c)
theorem t_longest {m : Nat} {S : zS} {w : jw} (hm : m ≤ 2900) (h : zTop m S w) (a b : Int32) : zStep m w (f_X11_longest a b) (f_X12_longest a b) := zStep_Q hm h (q_longest h.1 (by have := h.2.1; omega) a b)
theorem t_busiest {m : Nat} {S : zS} {w : jw} (hm : m ≤ 2900) (h : zTop m S w) (a b c : Int32) : zStep m w (f_X11_busiest a b c) (f_X12_busiest a b c) := zStep_Q hm h (q_busiest h.1 (by have := h.2.1; omega) a b c)
theorem t_gap {m : Nat} {S : zS} {w : jw} (hm : m ≤ 2900) (h : zTop m S w) (a b : Int32) : zStep m w (f_X11_gap a b) (f_X12_gap a b) := zStep_Q hm h (q_gap h.1 (by have := h.2.1; omega) a b)
theorem t_held {m : Nat} {S : zS} {w : jw} (hm : m ≤ 2900) (h : zTop m S w) (a b : Int32) : zStep m w (f_X11_held a b) (f_X12_held a b) := zStep_Q hm h (q_held h.1 a b)
theorem t_page {m : Nat} {S : zS} {w : jw} (hm : m ≤ 2900) (h : zTop m S w) (a b : Int32) : zStep m w (f_X11_page a b) (f_X12_page a b) := zStep_Q hm h (q_page h.1 a b)
theorem t_entry {m : Nat} {S : zS} {w : jw} (hm : m ≤ 2900) (h : zTop m S w) (a b c : Int32) : zStep m w (f_X11_entry a b c) (f_X12_entry a b c) := zStep_Q hm h (q_entry h.1 a b c)
theorem t_room {m : Nat} {S : zS} {w : jw} (hm : m ≤ 2900) (h : zTop m S w) (a : Int32) : zStep m w (f_X11_room a) (f_X12_room a) := zStep_Q hm h (q_room h.1 a)
end
