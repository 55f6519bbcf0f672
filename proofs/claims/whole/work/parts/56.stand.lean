/-! stand -/
def bv (f k : Bool) : Nat := (if f then 1 else 0) + (if k then 2 else 0)
theorem bv_1 (f k : Bool) : nI (bv f k) ||| 1 = nI (bv true k) := by cases f <;> cases k <;> decide
theorem bv_2 (f k : Bool) : nI (bv f k) ||| 2 = nI (bv f true) := by cases f <;> cases k <;> decide
theorem m_two {a b : Nat} (mn : Int32) (row : Nat → Int32) : ∃ row', F_X11_takeTwo (nI a) (nI b) mn row = some (nI [a, b].length, row') ∧ arr row' [a, b] := by
  refine ⟨upd (upd row 0 (nI a)) 1 (nI b), ?_, fun i hi => ?_⟩
  · unfold F_X11_takeTwo F_X11_takeTwo_0
    rw [ck_lit (i := 0) (n := 36) (by decide), lt_e, ck_lit (i := 1) (n := 36) (by decide), lt_e, lt_e, show (0 : Int32).toNatClampNeg = 0 by decide, show (1 : Int32).toNatClampNeg = 1 by decide]
    rfl
  · have hi2 : i < 2 := hi
    rcases (show i = 0 ∨ i = 1 by omega) with rfl | rfl
    · rw [pk_un (by omega), pk_us]; rfl
    · rw [pk_us]; rfl
section ST
variable {now : Nat → Int32} {ns nl most a b : Nat} {Lf Lh Li Lk : Nat → Int32}
theorem ld1_sh {l : Nat} {r : List Nat} (h : r.length ≤ 8) : ld1 now l r = some (ap now l r).1 := by
  unfold ld1
  have := ap_len (now := now) l r
  rw [if_pos (by omega)]
theorem lead_sh (hI : LI now ns nl) (hC : LC now ns nl Lf Lh Li Lk) {l : Nat} (hl : l < nl) {r : List Nat} (h : dn ns r) (hr : r.length ≤ 8) (t : Int32) : F_X1_lead (nI l) (wl r) t Lf Lh Li Lk = some (wl (ap now l r).1, nI (ap now l r).2) := by
  obtain ⟨t', e1, e2⟩ := lead_ap hI hC hl h (by omega) t
  have := ap_len (now := now) l r
  rw [e1, ld1_sh hr, e2 (by omega)]
  rfl
theorem go_sh (hI : LI now ns nl) {l : Nat} (hl : l < nl) {word : Nat → Int32} {r : List Nat} (h : dn ns r) (hr : r.length ≤ 8) (hw : arr word r.reverse) (mk0 ch0 : Int32) (made : Nat → Int32) : ∃ made' word', F_X11_go (nI l) (nI r.length) mk0 ch0 made now word = some (1, nI (ap now l r).1.length, nI (ap now l r).1.length, nI (ap now l r).2, made', word') ∧ arr word' (ap now l r).1.reverse := by
  obtain ⟨made', word', g1, g2⟩ := go_ap hI hl h (by omega) hw mk0 ch0 made
  have := ap_len (now := now) l r
  rw [if_pos (by omega), if_pos (by omega)] at g1
  exact ⟨made', word', g1, g2 (by omega)⟩
theorem st_191 (K : Int32 → Int32 → Int32 → Int32 → Int32 → Int32 → Int32 → Int32 → Int32 → (Nat → Int32) → (Nat → Int32) → (Nat → Int32) → (Nat → Int32) → Option (Int32 × Int32 × Int32 × Int32 × Int32 × Int32 × Int32 × (Nat → Int32) × (Nat → Int32) × (Nat → Int32) × (Nat → Int32))) (x3 x4 x5 x6 s0 fi mn sz mk ss : Int32) (k : Bool) {tb tc : Nat} (h1 : tb < 2 ^ 31) (h2 : tc < 2 ^ 31) (made now row some1 word : Nat → Int32) :
    F_X11_stand_191 K x3 x4 x5 x6 (b2 k) (nI tb) s0 fi mn sz mk (nI tc) ss made now row some1 word = F_X11_stand_214 K x3 x4 x5 x6 s0 (b2 (k || decide (tc < tb))) fi mn sz mk (nI tc) ss made now row some1 word := by
  unfold F_X11_stand_191 F_X11_stand_207 F_X11_stand_212
  cases k with
  | true => rw [if_neg (by decide)]; rfl
  | false =>
    rw [if_pos (by decide)]
    by_cases c : tc < tb
    · rw [if_neg (nI_ge c h1), decide_eq_true c]; rfl
    · rw [if_pos (nI_le (by omega) h2), decide_eq_false c]; rfl
theorem stand_loop (hI : LI now ns nl) (hC : LC now ns nl Lf Lh Li Lk) (n0 : now 0 = nI ns) (h4 : most ≤ 4) (ha : a < nl) (hb : b < nl) (fi : Int32) (fuel : Nat) :
    ∀ (j : Nat) (al f k : Bool) (t1 mn sz mk ch : Int32) (made row some1 word : Nat → Int32), j < hm ns most → hm ns most - j + 1 < fuel → arr some1 (Wd ns j).reverse →
    ∃ v t2 mn2 sz2 mk2 ch2 ss2 made2 row2 some2 word2, F_X0_standing_32L (nI a) (nI b) (nI ns) (nI (hm ns most)) Lf Lh Li Lk fuel (b2 al) (nI (bv f k)) (wl (Wd ns j)) (nI j) t1 = some (v, t2) ∧ F_X11_stand_76L (nI most) (nI a) (nI b) fi now fuel (b2 al) (b2 f) (b2 k) 1 mn sz mk ch (nI (Wd ns j).length) made row some1 word = some (v, fi, mn2, sz2, mk2, ch2, ss2, made2, row2, some2, word2) := by
  have hK := hm_b (n := ns) (m := most) hI.2.1 h4
  induction fuel with
  | zero => intro j al f k t1 mn sz mk ch made row some1 word _ h; exact absurd h (Nat.not_lt_zero _)
  | succ fuel ih =>
    intro j al f k t1 mn sz mk ch made row some1 word hj hf hs
    have e0 : F_X0_standing_32L (nI a) (nI b) (nI ns) (nI (hm ns most)) Lf Lh Li Lk (fuel + 1) (b2 al) (nI (bv f k)) (wl (Wd ns j)) (nI j) t1 = F_X0_standing_32 (F_X0_standing_32L (nI a) (nI b) (nI ns) (nI (hm ns most)) Lf Lh Li Lk fuel) (nI a) (nI b) (b2 al) (nI (bv f k)) (nI ns) (nI (hm ns most)) (wl (Wd ns j)) (nI j) t1 Lf Lh Li Lk := rfl
    have e1 : F_X11_stand_76L (nI most) (nI a) (nI b) fi now (fuel + 1) (b2 al) (b2 f) (b2 k) 1 mn sz mk ch (nI (Wd ns j).length) made row some1 word = F_X11_stand_76 (F_X11_stand_76L (nI most) (nI a) (nI b) fi now fuel) (nI most) (nI a) (nI b) (b2 al) (b2 f) (b2 k) 1 fi mn sz mk ch (nI (Wd ns j).length) made now row some1 word := rfl
    rw [e0, e1]
    obtain ⟨hd, hl4⟩ := Wd_ok hj
    have hdg := dn_dg hd hI.2.1
    generalize hwj : Wd ns j = w at *
    have hl16 : w.length ≤ 16 := by omega
    have dA := ap_dn hI ha hd
    have dB := ap_dn hI hb hd
    have lA := ap_len (now := now) a w
    have lB := ap_len (now := now) b w
    have tB := ap_t (now := now) b w
    have tAB := ap_t (now := now) b (ap now a w).1
    have hAB := ap_dn hI hb dA
    have hBA := ap_dn hI ha dB
    have lAB := ap_len (now := now) b (ap now a w).1
    have lBA := ap_len (now := now) a (ap now b w).1
    have q1 : ldA now [a, b] w = some (ap now b (ap now a w).1).1 := by
      rw [ldA_k, ld1_sh (by omega), bnd1, ldA_k, ld1_sh (by omega), bnd1]; rfl
    have q2 : ldA now [b, a] w = some (ap now a (ap now b w).1).1 := by
      rw [ldA_k, ld1_sh (by omega), bnd1, ldA_k, ld1_sh (by omega), bnd1]; rfl
    have vab : dn nl [a, b] := dn_cons.mpr ⟨ha, dn_cons.mpr ⟨hb, dn_nil⟩⟩
    have vba : dn nl [b, a] := dn_cons.mpr ⟨hb, dn_cons.mpr ⟨ha, dn_nil⟩⟩
    have ok1 := ldA_ok hI vab hd hl16
    have ok2 := ldA_ok hI vba hd hl16
    obtain ⟨row1, r1, r2⟩ := m_two (a := a) (b := b) mn row
    obtain ⟨w1, s1, s2⟩ := m_takeSome (by omega) hs sz word
    obtain ⟨sz2, mk2, ch2, made2, word2, m1⟩ := m_code hI r2 (by simp) vab mk ch made w1 hd hl16 s2 ok1
    obtain ⟨row3, r3, r4⟩ := m_two (a := b) (b := a) (nI [a, b].length) row1
    obtain ⟨w3, s3, s4⟩ := m_takeSome (by omega) hs sz2 word2
    obtain ⟨sz4, mk4, ch4, made4, word4, m2⟩ := m_code hI r4 (by simp) vba mk2 ch2 made2 w3 hd hl16 s4 ok2
    have hwq : wl (ap now b (ap now a w).1).1 = wl (ap now a (ap now b w).1).1 ↔ (ap now b (ap now a w).1).1 = (ap now a (ap now b w).1).1 := wl_inj (dn_dg hAB hI.2.1) (dn_dg hBA hI.2.1) (by omega) (by omega)
    have hcq := co_inj ok2 ok1
    rw [q1, q2] at hcq
    have hcq' : co (some (ap now a (ap now b w).1).1) = co (some (ap now b (ap now a w).1).1) ↔ (ap now b (ap now a w).1).1 = (ap now a (ap now b w).1).1 := by
      rw [hcq]
      exact ⟨fun h => (Option.some.inj h).symm, fun h => by rw [h]⟩
    -- the class's side
    have hcl : ∃ t2 : Int32, F_X0_standing_32 (F_X0_standing_32L (nI a) (nI b) (nI ns) (nI (hm ns most)) Lf Lh Li Lk fuel) (nI a) (nI b) (b2 al) (nI (bv f k)) (nI ns) (nI (hm ns most)) (wl w) (nI j) t1 Lf Lh Li Lk = F_X0_standing_32L (nI a) (nI b) (nI ns) (nI (hm ns most)) Lf Lh Li Lk fuel (b2 (al && decide ((ap now b (ap now a w).1).1 = (ap now a (ap now b w).1).1))) (nI (bv (f || decide ((ap now b w).2 < (ap now b (ap now a w).1).2)) (k || decide ((ap now b (ap now a w).1).2 < (ap now b w).2)))) (wl (nr ns w)) (nI (j + 1)) t2 := by
      have step : ∀ (f' k' : Bool) (t : Int32), ∃ t2 : Int32, F_X0_standing_148 (F_X0_standing_32L (nI a) (nI b) (nI ns) (nI (hm ns most)) Lf Lh Li Lk fuel) (nI a) (nI b) (b2 al) (nI (bv f' k')) (nI ns) (nI (hm ns most)) (wl w) (nI j) (wl (ap now b (ap now a w).1).1) (wl (ap now b w).1) t Lf Lh Li Lk = F_X0_standing_32L (nI a) (nI b) (nI ns) (nI (hm ns most)) Lf Lh Li Lk fuel (b2 (al && decide ((ap now b (ap now a w).1).1 = (ap now a (ap now b w).1).1))) (nI (bv f' k')) (wl (nr ns w)) (nI (j + 1)) t2 := by
        intro f' k' t
        unfold F_X0_standing_148 F_X0_standing_170
        rw [lead_sh hI hC ha dB (by omega), b2_s, w_next hI.2.1 hdg (by omega), b1_s, lt_e, nI_1]
        by_cases c : (ap now b (ap now a w).1).1 = (ap now a (ap now b w).1).1
        · rw [if_pos (hwq.mpr c), decide_eq_true c, Bool.and_true]; exact ⟨_, rfl⟩
        · rw [if_neg (fun q => c (hwq.mp q)), b1_s, lt_e, decide_eq_false c, Bool.and_false]; exact ⟨_, rfl⟩
      have hA0 : ¬ wl (ap now a w).1 = 0 := wl_ne0 (dn_dg dA hI.2.1) (by omega)
      have step2 : ∀ (f' : Bool) (t : Int32), ∃ t2 : Int32, F_X0_standing_128 (F_X0_standing_32L (nI a) (nI b) (nI ns) (nI (hm ns most)) Lf Lh Li Lk fuel) (nI a) (nI b) (b2 al) (nI (bv f' k)) (nI ns) (nI (hm ns most)) (wl w) (nI j) (wl (ap now a w).1) (wl (ap now b (ap now a w).1).1) (nI (ap now b (ap now a w).1).2) (wl (ap now b w).1) (nI (ap now b w).2) t Lf Lh Li Lk = F_X0_standing_32L (nI a) (nI b) (nI ns) (nI (hm ns most)) Lf Lh Li Lk fuel (b2 (al && decide ((ap now b (ap now a w).1).1 = (ap now a (ap now b w).1).1))) (nI (bv f' (k || decide ((ap now b (ap now a w).1).2 < (ap now b w).2)))) (wl (nr ns w)) (nI (j + 1)) t2 := by
        intro f' t
        unfold F_X0_standing_128
        rw [if_neg hA0]
        by_cases c : (ap now b (ap now a w).1).2 < (ap now b w).2
        · rw [if_neg (nI_ge c (by omega)), lt_e, bv_2, decide_eq_true c, Bool.or_true]; exact step f' true t
        · rw [if_pos (nI_le (by omega) (by omega)), decide_eq_false c, Bool.or_false]; exact step f' k t
      unfold F_X0_standing_32
      rw [if_neg (nI_ge hj (by omega)), lead_sh hI hC ha hd (by omega), b2_s, lead_sh hI hC hb dA (by omega), b2_s, lead_sh hI hC hb hd (by omega), b2_s, if_neg hA0]
      by_cases c : (ap now b w).2 < (ap now b (ap now a w).1).2
      · rw [if_neg (nI_ge c (by omega)), lt_e, bv_1, decide_eq_true c, Bool.or_true]; exact step2 true _
      · rw [if_pos (nI_le (by omega) (by omega)), decide_eq_false c, Bool.or_false]; exact step2 f _
    -- the reference's side
    have hrf : ∃ (mn' sz' mk' ch' : Int32) (made' row' word' : Nat → Int32), F_X11_stand_76 (F_X11_stand_76L (nI most) (nI a) (nI b) fi now fuel) (nI most) (nI a) (nI b) (b2 al) (b2 f) (b2 k) 1 fi mn sz mk ch (nI w.length) made now row some1 word = F_X11_stand_214 (F_X11_stand_76L (nI most) (nI a) (nI b) fi now fuel) (nI most) (nI a) (nI b) (b2 (al && decide ((ap now b (ap now a w).1).1 = (ap now a (ap now b w).1).1))) (b2 (f || decide ((ap now b w).2 < (ap now b (ap now a w).1).2))) (b2 (k || decide ((ap now b (ap now a w).1).2 < (ap now b w).2))) fi mn' sz' mk' ch' (nI w.length) made' now row' some1 word' := by
      have step : ∀ (s0 : Bool) (mn' sz' mk' ch' : Int32) (made' row' word' : Nat → Int32), ∃ (mn2 sz2 mk2 ch2 : Int32) (made2 row2 word2 : Nat → Int32), F_X11_stand_131 (F_X11_stand_76L (nI most) (nI a) (nI b) fi now fuel) (nI most) (nI a) (nI b) (b2 f) (b2 k) (b2 s0) fi mn' sz' mk' ch' (nI w.length) made' now row' some1 word' = F_X11_stand_214 (F_X11_stand_76L (nI most) (nI a) (nI b) fi now fuel) (nI most) (nI a) (nI b) (b2 s0) (b2 (f || decide ((ap now b w).2 < (ap now b (ap now a w).1).2))) (b2 (k || decide ((ap now b (ap now a w).1).2 < (ap now b w).2))) fi mn2 sz2 mk2 ch2 (nI w.length) made2 now row2 some1 word2 := by
        intro s0 mn' sz' mk' ch' made' row' word'
        obtain ⟨u1, v1, v2⟩ := m_takeSome (by omega) hs sz' word'
        obtain ⟨md1, wd1, g1, g2⟩ := go_sh hI hb hd (by omega) v2 mk' ch' made'
        obtain ⟨u3, v3, v4⟩ := m_takeSome (by omega) hs (nI (ap now b w).1.length) wd1
        obtain ⟨md3, wd3, g3, g4⟩ := go_sh hI ha hd (by omega) v4 (nI (ap now b w).1.length) (nI (ap now b w).2) md1
        obtain ⟨md5, wd5, g5, g6⟩ := go_sh hI hb dA (by omega) g4 (nI (ap now a w).1.length) (nI (ap now a w).2) md3
        unfold F_X11_stand_131 F_X11_stand_186
        rw [v1, b2_s, g1, b6_s, v3, b2_s, g3, b6_s, if_neg ne10, g5, b6_s]
        cases f with
        | true =>
          rw [if_neg (by decide), st_191 _ _ _ _ _ _ _ _ _ _ _ _ (by omega) (by omega)]
          exact ⟨_, _, _, _, _, _, _, rfl⟩
        | false =>
          rw [if_pos (by decide)]
          by_cases c : (ap now b w).2 < (ap now b (ap now a w).1).2
          · rw [if_neg (nI_ge c (by omega)), st_191 _ _ _ _ _ _ _ _ _ _ _ _ (by omega) (by omega), decide_eq_true c]
            exact ⟨_, _, _, _, _, _, _, rfl⟩
          · rw [if_pos (nI_le (by omega) (by omega)), st_191 _ _ _ _ _ _ _ _ _ _ _ _ (by omega) (by omega), decide_eq_false c]
            exact ⟨_, _, _, _, _, _, _, rfl⟩
      unfold F_X11_stand_76 F_X11_stand_130
      rw [if_neg ne10, r1, b2_s, s1, b2_s, m1, b6_s, r3, b2_s, s3, b2_s]
      cases al with
      | false => rw [if_pos (by decide), Bool.false_and]; exact step false _ _ _ _ _ _ _
      | true =>
        rw [if_neg (by decide), m2, b6_s, q1, q2, Bool.true_and]
        by_cases c : (ap now b (ap now a w).1).1 = (ap now a (ap now b w).1).1
        · rw [if_pos (hcq'.mpr c), decide_eq_true c]; exact step true _ _ _ _ _ _ _
        · rw [if_neg (fun q => c (hcq'.mp q)), decide_eq_false c]; exact step false _ _ _ _ _ _ _
    obtain ⟨t2, hcl⟩ := hcl
    obtain ⟨mn', sz', mk', ch', made', row', word', hrf⟩ := hrf
    rw [hcl, hrf]
    generalize (al && decide ((ap now b (ap now a w).1).1 = (ap now a (ap now b w).1).1)) = al'
    generalize (f || decide ((ap now b w).2 < (ap now b (ap now a w).1).2)) = f'
    generalize (k || decide ((ap now b (ap now a w).1).2 < (ap now b w).2)) = k'
    subst hwj
    unfold F_X11_stand_214
    obtain ⟨y, ssz, g', x1, x2⟩ := m_next (now := now) hI.2.1 h4 n0 hj hs
    rw [x1, b3_s]
    rcases x2 with ⟨rfl, hlast⟩ | ⟨rfl, hlt2, rfl, ha'⟩
    · obtain ⟨fuel, rfl⟩ : ∃ g, fuel = g + 1 := ⟨fuel - 1, by omega⟩
      refine ⟨if al' then 0 else nI (4 + bv f' k'), t2, mn', sz', mk', ch', ssz, made', row', g', word', ?_, ?_⟩
      · show F_X0_standing_32 (F_X0_standing_32L (nI a) (nI b) (nI ns) (nI (hm ns most)) Lf Lh Li Lk fuel) (nI a) (nI b) (b2 al') (nI (bv f' k')) (nI ns) (nI (hm ns most)) (wl (nr ns (Wd ns j))) (nI (j + 1)) t2 Lf Lh Li Lk = _
        unfold F_X0_standing_32
        rw [if_pos (nI_le (by omega) (by omega)), show (4 : Int32) + nI (bv f' k') = nI (4 + bv f' k') from nI_add 4 _]
        cases al' <;> rfl
      · show F_X11_stand_76 (F_X11_stand_76L (nI most) (nI a) (nI b) fi now fuel) (nI most) (nI a) (nI b) (b2 al') (b2 f') (b2 k') 0 fi mn' sz' mk' ch' ssz made' now row' g' word' = _
        unfold F_X11_stand_76 F_X11_stand_244 F_X11_stand_255
        rw [if_pos rfl]
        cases al' <;> cases f' <;> cases k' <;> rfl
    · exact ih (j + 1) al' f' k' t2 mn' sz' mk' ch' made' row' g' word' hlt2 (by omega) ha'
end ST
set_option maxHeartbeats 1000000 in
theorem sim_stand : Sim_stand Rel := by
  intro wc ak fi kwd kou kga klc klt klw kLc kLf kLh kLi kLk kLK kLN kLY kMc kMf kSc kSr kSk kSn kSy kTc kTo kTO kTp wd ou ga lc lt lw Lc Lf Lh Li Lk LK LN LY Mc Mf Sc Sr Sk Sn Sy Tc To TO Tp wt tch isK wts mfi now mkept mwt m_many m_size m_makes m_changes m_someSize m_made m_row m_some m_word z0 z1 z2 hR
  obtain ⟨hW, hK, hF, hS⟩ := hR
  subst hF
  have hS0 := hS
  obtain ⟨ns, nl, nt, nm, hC, hSn, hL, hT, hM, ⟨r, hw⟩, hO, hLt, hG⟩ := hS
  obtain ⟨n0, n1, n2, n3, rfl, rfl, rfl, rfl, bb0, bb1, bb2, bb3⟩ := hC
  rcases ix_c z0 (n := nt) (by omega) with h | ⟨t, ht, rfl⟩
  · obtain ⟨p1, p2⟩ := pair_no (z1 := z1) (TO := TO) bb2 n2 h
    iterate 13 apply Exists.intro
    refine ⟨?e1, ?e2, hW, hK, ?e5, ?e3⟩
    case e1 => unfold F_X10_stand F_X10_stand_0 F_X10_stand_22; rw [p1]; rfl
    case e2 => unfold F_X11_stand F_X11_stand_0 F_X11_stand_18; rw [p2]; rfl
    case e5 => rfl
    case e3 => exact hS0
  · obtain ⟨c, c1, c2, c3, c4, c5, c6⟩ := TT_at hT ht
    rcases pair_c (z1 := z1) bb2 n2 ht c1 c2 c3 with ⟨p1, p2⟩ | ⟨p1, p2, k, hk, rfl⟩
    · iterate 13 apply Exists.intro
      refine ⟨?e1, ?e2, hW, hK, ?e5, ?e3⟩
      case e1 => unfold F_X10_stand F_X10_stand_0 F_X10_stand_22; rw [p1]; rfl
      case e2 => unfold F_X11_stand F_X11_stand_0 F_X11_stand_18; rw [p2]; rfl
      case e5 => rfl
      case e3 => exact hS0
    · rcases in_c z2 0 4 with ⟨h1, h2⟩ | ⟨h1, h2, h3⟩
      · iterate 13 apply Exists.intro
        refine ⟨?e1, ?e2, hW, hK, ?e5, ?e3⟩
        case e1 => unfold F_X10_stand F_X10_stand_0 F_X10_stand_22; rw [p1, b1_s, if_neg (by decide), tried, h1]; rfl
        case e2 => unfold F_X11_stand F_X11_stand_0 F_X11_stand_18; rw [p2, b1_s, if_neg (by decide), h1]; rfl
        case e5 => rfl
        case e3 => exact hS0
      · obtain ⟨most, hmost, rfl⟩ := in_n (b := 4) (m := 4) rfl (by decide) h2 h3
        obtain ⟨a, a1, a2, a3, a4⟩ := c6 k (by omega)
        obtain ⟨d, d1, d2, d3, d4⟩ := c6 (k + 1) (by omega)
        have e272 : ((272 : Int32) + (6 : Int32) * nI t) + nI k = nI (272 + 6 * t + k) := by
          rw [show (272 : Int32) = nI 272 from rfl, show (6 : Int32) = nI 6 from rfl, pk_mul, nI_add, nI_add]
        have hKb := hm_b (n := ns) (m := most) bb0 hmost
        obtain ⟨v, t2, mn2, sz2, mk2, ch2, ss2, made2, row2, some2, word2, l1, l2⟩ := stand_loop hL.1 hL.2.1 n0 hmost a1 d1 fi fu_ 0 true false false tch m_many m_size m_makes m_changes m_made m_row m_some m_word (hm_pos ns most) (by unfold fu_; omega) (fun i hi => absurd hi (Nat.not_lt_zero i))
        iterate 13 apply Exists.intro
        refine ⟨?e1, ?e2, hW, hK, ?e5, ?e3⟩
        case e1 =>
          unfold F_X10_stand F_X10_stand_0 F_X0_standing F_X0_standing_0
          rw [p1, b1_s, if_neg (by decide), tried, h1, b1_s, if_neg (by decide), nI_1, ck_ok rfl (show t < 6 by omega) (by decide), ck_ok rfl (show k < 6 by omega) (by decide), ck_ok rfl (show t < 6 by omega) (by decide), ck_ok rfl (show k + 1 < 6 by omega) (by decide), nI_clamp (n := t) (by omega), nI_clamp (n := k) (by omega), nI_clamp (n := k + 1) (by omega), a4, d4, w_how bb0 hmost, b1_s]
          exact (show bn2_ (F_X0_standing_32L (nI a) (nI d) (nI ns) (nI (hm ns most)) Lf Lh Li Lk fu_ (b2 true) (nI (bv false false)) (wl (Wd ns 0)) (nI 0) tch) _ = _ by rw [l1]; rfl)
        case e2 =>
          unfold F_X11_stand F_X11_stand_0 F_X11_beginSome F_X11_beginSome_0
          rw [p2, b1_s, if_neg (by decide), h1, b1_s, if_neg (by decide), e272, nI_1, ck_ok rfl (show 272 + 6 * t + k < 1600 by omega) (by decide), lt_e, ck_ok rfl (show 272 + 6 * t + k + 1 < 1600 by omega) (by decide), lt_e, nI_clamp (n := 272 + 6 * t + k) (by omega), nI_clamp (n := 272 + 6 * t + k + 1) (by omega), a3, show now (272 + 6 * t + k + 1) = nI d from d3, lt_e, b1_s]
          exact l2
        case e5 => rfl
        case e3 => exact hS0
