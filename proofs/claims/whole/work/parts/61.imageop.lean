/-! image and total: both answer alike, with what both keep -/
theorem nI_ofI (x : Nat) : nI x = Int32.ofInt (x : Int) := Int32.ofInt_eq_ofNat.symm
theorem nI_div {x : Nat} (hx : x < 65536) : nI x / 256 = nI (x / 256) := by
  have h := Int32.ofInt_tdiv (a := (x : Int)) (b := 256) (by have : Int32.minValue.toInt = -2147483648 := by decide
                                                             omega) (by have : Int32.maxValue.toInt = 2147483647 := by decide
                                                                        omega) (by decide) (by decide)
  have e : (x : Int).tdiv 256 = ((x / 256 : Nat) : Int) := by
    rw [Int.tdiv_eq_ediv_of_nonneg (by omega)]; rfl
  rw [e, ← nI_ofI, ← nI_ofI] at h
  exact h.symm
theorem nI_rem {x : Nat} (hx : x < 65536) : nI x - nI x / 256 * 256 = nI (x % 256) := by
  rw [nI_div hx, show (256 : Int32) = nI 256 from rfl, pk_mul, pk_sub (by omega), show x - x / 256 * 256 = x % 256 by omega]
theorem ckZ_256 {β : Type} (k : Option β) : ckZ 256 k = k := by unfold ckZ; rw [if_neg (by decide)]
theorem shr64 {n : Nat} (hn : n < 9) {q : Int} (h1 : Sml (2 ^ n * q)) (h2 : Sml q) : Int64.ofInt (2 ^ n * q) >>> ((nI n).toInt64 &&& 63) = Int64.ofInt q := by
  obtain ⟨s1, s2, _⟩ := shk n hn
  apply Int64.toInt_inj.mp
  have e : (Int64.ofInt (2 ^ n * q) >>> ((nI n).toInt64 &&& 63)).toInt = ((Int64.ofInt (2 ^ n * q)).toBitVec.sshiftRight' (((nI n).toInt64 &&& 63).toBitVec.smod 64)).toInt := rfl
  rw [e, s1, BitVec.toInt_sshiftRight', s2]
  have e2 : (Int64.ofInt (2 ^ n * q)).toBitVec.toInt = 2 ^ n * q := lI_toInt (by omega) (by omega)
  rw [e2, lI_toInt (by omega) (by omega), Int.shiftRight_eq_div_pow]
  have : ((2 ^ n : Nat) : Int) = (2 : Int) ^ n := by simp
  rw [this, Int.mul_ediv_cancel_left _ (Int.ne_of_gt (Int.pow_pos (by decide)))]
def CacheC (n len : Nat) (R B K : Nat → Nat) (V : Nat → Int) (drawn held terms widest halvings : Int32) (fo ta : Nat → Int32) (nb : Nat → Int64) : Prop := drawn = 0 ∨ (drawn = 1 ∧ ∃ h, PicOk n len R B K V held terms widest halvings fo ta nb h)
def CacheM (n len : Nat) (B K : Nat → Nat) (V : Nat → Int) (ik ip im iw : Int32) (img : Nat → Int64) (pl : Nat → Int32) : Prop := ik = 0 ∨ (ik = 1 ∧ ∃ p H, ImgOk n (Gm n B (Mat len K V)) ip im iw img pl p H)
theorem pow_split {a b : Nat} (h : a ≤ b) : (2 : Int) ^ a ∣ 2 ^ b := ⟨2 ^ (b - a), by rw [← Int.pow_add, Nat.add_sub_cancel' h]⟩
theorem same_power {n h p : Nat} {G H : Nat → Nat → Int} (h1 : h ≤ n) (h2 : ∀ f, f < 2 ^ n → ∀ s, s < 2 ^ n → (2 : Int) ^ (n - h) ∣ G f s) (h3 : h = 0 ∨ ¬ ∀ f, f < 2 ^ n → ∀ s, s < 2 ^ n → (2 : Int) ^ (n - h + 1) ∣ G f s) (p1 : p ≤ n) (p2 : ∀ f, f < 2 ^ n → ∀ s, s < 2 ^ n → G f s = 2 ^ (n - p) * H f s) (p3 : p = 0 ∨ ¬ ∀ f s, f < 2 ^ n → s < 2 ^ n → ∃ q, H f s = 2 * q) : h = p := by
  rcases Nat.lt_trichotomy h p with q | q | q
  · rcases p3 with p3 | p3
    · omega
    · exfalso
      apply p3
      intro f s hf hs
      have hd := Int.dvd_trans (pow_split (show n - p + 1 ≤ n - h by omega)) (h2 f hf s hs)
      obtain ⟨w, hw⟩ := hd
      refine ⟨w, ?_⟩
      rw [p2 f hf s hs, Int.pow_succ, Int.mul_assoc] at hw
      exact Int.eq_of_mul_eq_mul_left (Int.ne_of_gt (Int.pow_pos (by decide))) hw
  · exact q
  · rcases h3 with h3 | h3
    · omega
    · exfalso
      apply h3
      intro f hf s hs
      refine Int.dvd_trans (pow_split (show n - h + 1 ≤ n - p by omega)) ?_
      exact ⟨H f s, p2 f hf s hs⟩
section
variable {F n len : Nat} {R B K : Nat → Nat} {V : Nat → Int} {count products thrown : Int32} {keys numbers rows back ups downs reads : Nat → Int32} {num : Nat → Int64} {drawn held te wi ha fs ik a b ip im iw : Int32} {fo ta sp pl : Nat → Int32} {nb mx img : Nat → Int64}
theorem draw_any (hF : 300 < F) (hn : n ≤ 8) (hO : SumOk n len K V) (hC : SumC count keys numbers len K V) (hI : Inv n R B) (hR : AR n rows R) (hB : AR n back B) (hc : CacheC n len R B K V drawn held te wi ha fo ta nb) :
    ∃ held' te' wi' ha' fo' ta' nb' sp' h, f_Pi_draw F drawn held te wi ha fo ta nb sp count keys numbers (nI n) rows back = some (1, held', te', wi', ha', fo', ta', nb', sp') ∧ PicOk n len R B K V held' te' wi' ha' fo' ta' nb' h := by
  rcases hc with rfl | ⟨rfl, h, hP⟩
  · obtain ⟨rfl, hC2⟩ := hC
    exact draw_all hF hn hO ⟨rfl, hC2⟩ hI hR hB held te wi ha fo ta nb sp
  · exact ⟨held, te, wi, ha, fo, ta, nb, sp, h, by rw [f_Pi_draw, if_neg (by decide)], hP⟩
theorem img_any (hF : 70000 < F) (hn : n ≤ 8) (hO : SumOk n len K V) (hM : SumM products ups downs num len K V) (hR : ∀ s, s < 2 ^ n → reads s = nI (wrt n B s)) (hc : CacheM n len B K V ik ip im iw img pl) :
    ∃ a' b' ip' im' iw' mx' img' pl' p H, f_Mo_findImage F (nI n) products ik a b ip im iw ups downs num reads mx img pl = some (1, a', b', ip', im', iw', mx', img', pl') ∧ ImgOk n (Gm n B (Mat len K V)) ip' im' iw' img' pl' p H := by
  rcases hc with rfl | ⟨rfl, p, H, hP⟩
  · obtain ⟨rfl, hM2⟩ := hM
    exact findImage_all hF hn hO ⟨rfl, hM2⟩ hR
  · exact ⟨a, b, ip, im, iw, mx, img, pl, p, H, by rw [f_Mo_findImage, if_neg (by decide)], hP⟩
set_option maxHeartbeats 1000000 in
theorem image_op (hF : 70000 < F) (hn : n ≤ 8) (hO : SumOk n len K V) (hC : SumC count keys numbers len K V) (hM : SumM products ups downs num len K V) (hI : Inv n R B) (hR : AR n rows R) (hB : AR n back B) (hre : ∀ s, s < 2 ^ n → reads s = nI (wrt n B s)) (hc : CacheC n len R B K V drawn held te wi ha fo ta nb) (hm : CacheM n len B K V ik ip im iw img pl) (p1 p2 : Int32) :
    ∃ (o : Option Int64) (r : Int64) (th dr' held' te' wi' ha' fs' : Int32) (fo' ta' : Nat → Int32) (nb' : Nat → Int64) (sp' : Nat → Int32) (ik' a' b' ip' im' iw' : Int32) (mx' img' : Nat → Int64) (pl' : Nat → Int32),
      f_FM_image F count keys numbers (nI n) rows back drawn held te wi ha fs fo ta nb sp p1 p2 = some (o, dr', held', te', wi', ha', fs', fo', ta', nb', sp') ∧ f_Mo_image F thrown (nI n) products ik a b ip im iw ups downs num reads mx img pl p1 p2 = some (r, th, ik', a', b', ip', im', iw', mx', img', pl') ∧
      ((o = none ∧ th = 1) ∨ (o = some r ∧ th = 0)) ∧ CacheC n len R B K V dr' held' te' wi' ha' fo' ta' nb' ∧ CacheM n len B K V ik' ip' im' iw' img' pl' := by
  have h8 := n8 hn
  obtain ⟨he1, te1, wi1, ha1, fo1, ta1, nb1, sp1, h, e1, hP⟩ := draw_any (F := F) (sp := sp) (by omega) hn hO hC hI hR hB hc
  obtain ⟨a1, b1, ip1, im1, iw1, mx1, img1, pl1, p, H, e2, hQ⟩ := img_any (F := F) (a := a) (b := b) (mx := mx) hF hn hO hM hre hm
  have hc1 : CacheC n len R B K V 1 he1 te1 wi1 ha1 fo1 ta1 nb1 := Or.inr ⟨rfl, h, hP⟩
  have hm1 : CacheM n len B K V 1 ip1 im1 iw1 img1 pl1 := Or.inr ⟨rfl, p, H, hQ⟩
  have hmany := many_le (G := Gm n B (Mat len K V)) hn
  rw [f_FM_image, f_Mo_image, e1, e2]
  simp only [Option.bind_some]
  have bad : ∀ (x : Option (Int64 × Int32 × Int32 × Int32 × Int32 × Int32 × Int32 × Int32 × (Nat → Int64) × (Nat → Int64) × (Nat → Int32))), x = b_Mo_image_41 F (nI n) products ups downs num reads 0 1 a1 b1 ip1 im1 iw1 mx1 img1 pl1 → ∃ (o : Option Int64) (r : Int64) (th dr' held' te' wi' ha' fs' : Int32) (fo' ta' : Nat → Int32) (nb' : Nat → Int64) (sp' : Nat → Int32) (ik' a' b' ip' im' iw' : Int32) (mx' img' : Nat → Int64) (pl' : Nat → Int32),
      some ((none : Option Int64), (1 : Int32), he1, te1, wi1, ha1, fs, fo1, ta1, nb1, sp1) = some (o, dr', held', te', wi', ha', fs', fo', ta', nb', sp') ∧ x = some (r, th, ik', a', b', ip', im', iw', mx', img', pl') ∧
      ((o = none ∧ th = 1) ∨ (o = some r ∧ th = 0)) ∧ CacheC n len R B K V dr' held' te' wi' ha' fo' ta' nb' ∧ CacheM n len B K V ik' ip' im' iw' img' pl' := fun x hx => by
    rw [hx]
    exact ⟨_, _, _, _, _, _, _, _, _, _, _, _, _, _, _, _, _, _, _, _, _, _, rfl, rfl, Or.inl ⟨rfl, rfl⟩, hc1, hm1⟩
  by_cases q1 : p1 = -1
  · rw [if_pos q1, if_pos q1]
    refine ⟨_, _, _, _, _, _, _, _, _, _, _, _, _, _, _, _, _, _, _, _, _, _, rfl, rfl, Or.inr ⟨?_, rfl⟩, hc1, hm1⟩
    rw [hP.1, hQ.2.2.1]
  · rw [if_neg q1, if_neg q1]
    by_cases q2 : p1 < 0
    · rw [if_pos q2, if_pos q2]; exact bad _ rfl
    · rw [if_neg q2, if_neg q2]
      obtain ⟨i, hi, rfl⟩ := nI_of q2
      rw [hP.1, hQ.2.2.1, if_le (by omega) hi, if_le (by omega) hi]
      rw [hP.1] at bad hc1
      rw [hQ.2.2.1] at bad hm1
      by_cases q3 : cum (2 ^ n) (Gm n B (Mat len K V)) (2 ^ n) ≤ i
      · rw [if_pos q3, if_pos q3]; exact bad _ rfl
      · rw [if_neg q3, if_neg q3]
        by_cases q4 : p2 < 0
        · rw [if_pos q4, if_pos q4]; exact bad _ rfl
        · rw [if_neg q4, if_neg q4]
          by_cases q5 : p2 ≤ 3
          · rw [if_pos q5, if_pos q5]
            obtain ⟨k, hk, rfl⟩ := le3 q4 q5
            obtain ⟨r1, r2, r3, r4, r5, r6, r7, r8, r9⟩ := hP
            obtain ⟨t1, t2, t3, t4, t5, t6, t7, t8⟩ := hQ
            have hp := same_power r4 r5 r6 t1 t7 t8
            subst hp
            have hP2 : PicOk n len R B K V he1 te1 wi1 ha1 fo1 ta1 nb1 h := ⟨r1, r2, r3, r4, r5, r6, r7, r8, r9⟩
            obtain ⟨rfl, hC2⟩ := hC
            obtain ⟨f, s, nb2, sp2, e3, g1, g2, g3, g4, g5⟩ := find_all (F := F) (fs := fs) (sp := sp1) (i := i) (by omega) hn hO ⟨rfl, hC2⟩ hI hB hP2 (by omega)
            have hpl : pl1 i = nI (256 * f + s) := by rw [← g4]; exact t5 f s g1 g2 g3 (Or.inl g1)
            have hc2 : CacheC n len R B K V 1 (nI f) (nI (cum (2 ^ n) (Gm n B (Mat len K V)) (2 ^ n))) wi1 ha1 fo1 ta1 nb2 := Or.inr ⟨rfl, h, rfl, r2, r3, r4, r5, r6, r7, r8, Or.inl ⟨f, g1, rfl, g5⟩⟩
            rw [ck_n (by omega) (by decide), nm_def, nI_clamp (by omega), hpl, e3]
            simp only [Option.bind_some]
            have hcase : k = 0 ∨ k = 1 ∨ k = 2 ∨ k = 3 := by omega
            rcases hcase with rfl | rfl | rfl | rfl
            · rw [if_neg (by decide), if_pos (by decide), if_pos (by decide), ckZ_256]
              refine ⟨_, _, _, _, _, _, _, _, _, _, _, _, _, _, _, _, _, _, _, _, _, _, rfl, rfl, Or.inr ⟨?_, rfl⟩, hc2, hm1⟩
              rw [nI_div (by omega), show (256 * f + s) / 256 = f by omega]
            · rw [if_neg (by decide), if_neg (by decide), if_pos (by decide), if_neg (by decide), if_pos (by decide), ckZ_256]
              refine ⟨_, _, _, _, _, _, _, _, _, _, _, _, _, _, _, _, _, _, _, _, _, _, rfl, rfl, Or.inr ⟨?_, rfl⟩, hc2, hm1⟩
              rw [nI_rem (by omega), show (256 * f + s) % 256 = s by omega]
            · rw [if_neg (by decide), if_neg (by decide), if_neg (by decide), if_neg (by decide), if_neg (by decide), if_pos (by decide), ck_n (by omega) (by decide), nI_clamp (by omega), t6 f g1 s g2, f_Pi_foundNumber, ck_n (by omega) (by decide), nI_clamp (by omega), g5 s g2, r3, shl64 (by omega)]
              simp only [Option.bind_some]
              refine ⟨_, _, _, _, _, _, _, _, _, _, _, _, _, _, _, _, _, _, _, _, _, _, rfl, rfl, Or.inr ⟨?_, rfl⟩, by rw [r3] at hc2; exact hc2, hm1⟩
              have hG := t7 f g1 s g2
              have hbd := Gm_bound (B := B) hn hO f s
              have e5 : Gm n B (Mat len K V) f s * 2 ^ h = 2 ^ n * H f s := by
                rw [hG, Int.mul_assoc, Int.mul_comm (H f s), ← Int.mul_assoc, ← Int.pow_add, Nat.sub_add_cancel r4]
              have hh8 : (2 : Int) ^ h ≤ 256 := by
                have := n8 (show h ≤ 8 by omega)
                have e6 : ((2 ^ h : Nat) : Int) = (2 : Int) ^ h := by simp
                omega
              have hh1 : (1 : Int) ≤ 2 ^ h := Int.pow_pos (by decide)
              have hsm : Sml (Gm n B (Mat len K V) f s * 2 ^ h) := by
                generalize Gm n B (Mat len K V) f s = g at *
                generalize (2 : Int) ^ h = P at *
                have u1 : g * P ≤ 15360000000 * 256 := by
                  rcases Int.lt_or_le g 0 with z | z
                  · have : g * P ≤ 0 := Int.mul_nonpos_of_nonpos_of_nonneg (by omega) (by omega)
                    omega
                  · exact Int.mul_le_mul hbd.2 hh8 (by omega) (by decide)
                have u2 : -(15360000000 * 256) ≤ g * P := by
                  rcases Int.lt_or_le g 0 with z | z
                  · have : (-g) * P ≤ 15360000000 * 256 := Int.mul_le_mul (by omega) hh8 (by omega) (by decide)
                    rw [Int.neg_mul] at this; omega
                  · have : 0 ≤ g * P := Int.mul_nonneg z (by omega)
                    omega
                constructor <;> omega
              have hsH : Sml (H f s) := by
                have hn1 : (1 : Int) ≤ 2 ^ (n - h) := Int.pow_pos (by decide)
                generalize Gm n B (Mat len K V) f s = g at *
                generalize (2 : Int) ^ (n - h) = P at *
                generalize H f s = x at *
                rcases Int.lt_or_le x 0 with z | z
                · have : P * x ≤ 1 * x := Int.mul_le_mul_of_nonpos_right hn1 (by omega)
                  constructor <;> omega
                · have : 1 * x ≤ P * x := Int.mul_le_mul_of_nonneg_right hn1 z
                  constructor <;> omega
              rw [e5] at hsm ⊢
              rw [shr64 (by omega) hsm hsH]
            · rw [if_pos (by decide), if_neg (by decide), if_neg (by decide), if_neg (by decide)]
              refine ⟨_, _, _, _, _, _, _, _, _, _, _, _, _, _, _, _, _, _, _, _, _, _, rfl, rfl, Or.inr ⟨?_, rfl⟩, hc1, hm1⟩
              rw [r3, t2]
          · rw [if_neg q5, if_neg q5]; exact bad _ rfl
set_option maxHeartbeats 1000000 in
theorem total_op {size kind modes wk : Int32} (hF : 70000 < F) (hn : n ≤ 8) (hO : SumOk n len K V) (hC : SumC count keys numbers len K V) (hM : SumM products ups downs num len K V) (hI : Inv n R B) (hR : AR n rows R) (hB : AR n back B) (hre : ∀ s, s < 2 ^ n → reads s = nI (wrt n B s)) (hc : CacheC n len R B K V drawn held te wi ha fo ta nb) (hm : CacheM n len B K V ik ip im iw img pl) (hsz : size = nI n) (hmd : modes = nI n) (hkd : kind = wk) (p1 : Int32) :
    ∃ (r dr' held' te' wi' ha' : Int32) (fo' ta' : Nat → Int32) (nb' : Nat → Int64) (sp' : Nat → Int32) (ik' a' b' ip' im' iw' : Int32) (mx' img' : Nat → Int64) (pl' : Nat → Int32),
      f_FM_total F count keys numbers size kind rows back drawn held te wi ha fo ta nb sp p1 = some (r, dr', held', te', wi', ha', fo', ta', nb', sp') ∧ f_Mo_total F thrown modes products wk ik a b ip im iw ups downs num reads mx img pl p1 = some (r, 0, ik', a', b', ip', im', iw', mx', img', pl') ∧
      CacheC n len R B K V dr' held' te' wi' ha' fo' ta' nb' ∧ CacheM n len B K V ik' ip' im' iw' img' pl' := by
  subst hsz; subst hmd; subst hkd
  have hl := hO.1
  rw [f_FM_total, f_Mo_total]
  by_cases q0 : p1 = 0
  · rw [if_pos q0, if_pos q0]
    exact ⟨_, _, _, _, _, _, _, _, _, _, _, _, _, _, _, _, _, _, _, rfl, rfl, hc, hm⟩
  · rw [if_neg q0, if_neg q0]
    by_cases q1 : p1 = 1
    · rw [if_pos q1, if_pos q1, hC.1, hM.1]
      exact ⟨_, _, _, _, _, _, _, _, _, _, _, _, _, _, _, _, _, _, _, rfl, rfl, hc, hm⟩
    · rw [if_neg q1, if_neg q1]
      by_cases q2 : p1 = 2
      · rw [if_pos q2, if_pos q2]
        exact ⟨_, _, _, _, _, _, _, _, _, _, _, _, _, _, _, _, _, _, _, rfl, rfl, hc, hm⟩
      · rw [if_neg q2, if_neg q2]
        by_cases q3 : p1 = 3
        · rw [if_pos q3, if_pos q3]
          obtain ⟨he1, te1, wi1, ha1, fo1, ta1, nb1, sp1, h, e1, hP⟩ := draw_any (F := F) (sp := sp) (by omega) hn hO hC hI hR hB hc
          obtain ⟨a1, b1, ip1, im1, iw1, mx1, img1, pl1, p, H, e2, hQ⟩ := img_any (F := F) (a := a) (b := b) (mx := mx) hF hn hO hM hre hm
          rw [e1, e2]
          simp only [Option.bind_some]
          have hw : wi1 = iw1 := by rw [hP.2.1, hQ.2.2.2.1]
          subst hw
          exact ⟨_, _, _, _, _, _, _, _, _, _, _, _, _, _, _, _, _, _, _, rfl, rfl, Or.inr ⟨rfl, h, hP⟩, Or.inr ⟨rfl, p, H, hQ⟩⟩
        · rw [if_neg q3, if_neg q3]
          by_cases q4 : p1 = 4
          · rw [if_pos q4, if_pos q4]
            have e1 := even_loop (F := F) hn hO hC F 0 len (by omega) (by omega)
            have e1' : f_Su_isEven F count keys = some (b2 (evenB K len 0)) := e1
            obtain ⟨rfl, hM2⟩ := hM
            have e2 := meven_loop (F := F) (reads := reads) (modes := nI n) (wk := kind) (thr := 0) (ik := ik) (a := a) (b := b) (ip := ip) (im := im) (iw := iw) (mx := mx) (ig := img) (pl := pl) (by omega) hn hO ⟨rfl, hM2⟩ F 0 len 0 (by omega) (by omega) (Nat.le_refl _)
            have e2' : b_Mo_total_70 F (nI n) (nI len) kind ups downs num reads F 0 0 0 ik a b ip im iw mx img pl = some (b2 (decide (0 = 0) && evenB K len 0), 0, ik, a, b, ip, im, iw, mx, img, pl) := e2
            rw [e1', e2']
            simp only [Option.bind_some]
            cases evenB K len 0
            · rw [if_pos (by decide)]
              exact ⟨_, _, _, _, _, _, _, _, _, _, _, _, _, _, _, _, _, _, _, rfl, rfl, hc, hm⟩
            · rw [if_neg (by decide)]
              exact ⟨_, _, _, _, _, _, _, _, _, _, _, _, _, _, _, _, _, _, _, rfl, rfl, hc, hm⟩
          · rw [if_neg q4, if_neg q4]
            exact ⟨_, _, _, _, _, _, _, _, _, _, _, _, _, _, _, _, _, _, _, rfl, rfl, hc, hm⟩
end
