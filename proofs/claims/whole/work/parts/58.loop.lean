/-! the law's loop -/
set_option maxHeartbeats 4000000 in
set_option maxRecDepth 40000 in
theorem la_loop {p : Program} {l : Launch} {e : Env} {s : State} {m : MethodId} {args : Array Value} {below : List Frame} {meth : Method} {c : Code} {D : va_G} {A : Nat → Prop} {Q : State → Prop} {cI cB cJ : ClassId} {L : Nat} {ad : Nat → Nat → Nat} {b n : Nat} {xs : Nat → Int32} (C : fd_C p m c code 7 s args fd_T "FareDeskLaw" D fd_cl (la_tys cI cB cJ) la_wl A) (hE : fd_Ex A s s.heap) (hN3 : fd_N3 s) (hl : l.stackTraces = false) (hX : va_X b n xs s s.heap) (hbl : b < s.heap.size) (hbA : ¬ A b) (hn : n ≤ 2049) (hL : L ≤ 60) (h6 : L % 6 = 0)
    (fin : ∀ (q : Nat) (M P : fd_Mem) (o : Int), q ≤ 512 → fd_J p l e room_1 s m args below meth c D fd_cl A ad (la_en cI cB cJ L ad) la_wl 7 (1000 + q) (10000 + 6 * q) Q (la_M M P o) 1028 [some (.ref b), some (.ref (ad 0 0)), some (.ref (la_ad ad 0 0)), some (.ref (ad 10 0)), some (.int (fd_I ((4 * q + 1 : Nat) : Int))), none, none] [.int (fd_I 1)]) :
    ∀ (dd q : Nat) (M P : fd_Mem) (o : Int), dd = 513 - q → q ≤ 512 → jr L M P → M 0 0 4 ≤ 100 * (q : Int) → fd_J p l e room_1 s m args below meth c D fd_cl A ad (la_en cI cB cJ L ad) la_wl 7 (1000 + q) (10000 + 6 * q) Q (la_M M P o) 33 [some (.ref b), some (.ref (ad 0 0)), some (.ref (la_ad ad 0 0)), some (.ref (ad 10 0)), some (.int (fd_I ((4 * q + 1 : Nat) : Int))), none, none] [] := by
  intro dd
  induction dd using Nat.strongRecOn with
  | ind dd ih =>
    intro q M P o hdd hq h hT
    have hKm := C.2.1.sub (tys' := mo_tys cI) [0] rfl
    have hKd := C.2.1.sub (tys' := ds_tys cI cB) [0, 1] rfl
    refine fd_iload C dL_law_33 rfl ?_
    refine fd_aload_n C dL_law_35 rfl ?_
    refine la_slen C hX hbl hbA dL_law_36 ?_
    refine fd_iconst C dL_law_37 ?_
    refine fd_isub C dL_law_38 ?_
    refine fd_icmp_gt C (tgt := 1027) dL_law_39 rfl ⟨by omega, by omega⟩ ⟨by omega, by omega⟩ (fun h39t => ?_) (fun h39f => ?_)
    · refine fd_iconst C dL_law_1027 ?_
      exact fin q M P o hq
    have hq1 : q + 1 ≤ 512 := by omega
    have back : ∀ (N Q2 : fd_Mem) (o2 : Int) (u5 u6 : Option Value) (mc ms : Nat), mc ≤ 1 → ms ≤ 6 → jr L N Q2 → N 0 0 4 ≤ M 0 0 4 + 100 → fd_J p l e room_1 s m args below meth c D fd_cl A ad (la_en cI cB cJ L ad) la_wl 7 (1000 + q + mc) (10000 + 6 * q + ms) Q (la_M N Q2 o2) 1021 [some (.ref b), some (.ref (ad 0 0)), some (.ref (la_ad ad 0 0)), some (.ref (ad 10 0)), some (.int (fd_I ((4 * q + 1 : Nat) : Int))), u5, u6] [] := by
      intro N Q2 o2 u5 u6 mc ms hmc hms hj ht
      refine fd_iinc C dL_law_1021 rfl (by decide) ?_
      refine fd_goto C (tgt := 33) dL_law_1024 rfl ?_
      refine fd_drop 5 ?_
      refine fd_drop 6 ?_
      refine fd_widen (k := 1000 + (q + 1)) (n := 10000 + 6 * (q + 1)) (by omega) (by omega) ?_
      have h9 := ih (513 - (q + 1)) (by omega) (q + 1) N Q2 o2 rfl hq1 hj (by omega)
      rw [show ((4 * (q + 1) + 1 : Nat) : Int) = ((4 * q + 1 : Nat) : Int) + 4 by omega] at h9
      exact h9
    refine fd_aload_n C dL_law_42 rfl ?_
    refine fd_iload C dL_law_43 rfl ?_
    refine la_sld C hX hbl hbA (x := 4 * q + 1) rfl (by omega) (by omega) dL_law_45 ?_
    refine fd_bipush C dL_law_46 (by decide) ?_
    refine la_iand C dL_law_48 (fun w hw => ?_)
    have hw2 := hw
    unfold fd_in at hw2
    rcases (show w < 0 ∨ 15 < w ∨ w = 0 ∨ w = 1 ∨ w = 2 ∨ w = 3 ∨ w = 4 ∨ w = 5 ∨ w = 6 ∨ w = 7 ∨ w = 8 ∨ w = 9 ∨ w = 10 ∨ w = 11 ∨ w = 12 ∨ w = 13 ∨ w = 14 ∨ w = 15 by omega) with hsw | hsw | hsw | hsw | hsw | hsw | hsw | hsw | hsw | hsw | hsw | hsw | hsw | hsw | hsw | hsw | hsw | hsw
    · refine fd_tswO C (tgt := 1021) dL_law_49 hw (Or.inl hsw) rfl ?_
      exact back M P o none none 0 0 (by omega) (by omega) h (by omega)
    · refine fd_tswO C (tgt := 1021) dL_law_49 hw (Or.inr hsw) rfl ?_
      exact back M P o none none 0 0 (by omega) (by omega) h (by omega)
    · refine fd_tswI C (tgt := 128) dL_law_49 hw (by omega) (by omega) (by rw [hsw]; rfl) rfl ?_
      obtain ⟨k, N, Q2, mc, ms, rm, h1, h2, h3, h4, h5, h7, h9, h10⟩ := jc_limit (l := l) (D := D) (cI := cI) (cB := cB) (cJ := cJ) (ad := ad) (o := o) (a := (xs (4 * q + 1 + 1)).toInt) (b := (xs (4 * q + 1 + 2)).toInt) h hL (by omega) hl (fd_in_self _) (fd_in_self _)
      unfold jc_R at h4
      refine fd_aload_n C dL_law_128 rfl ?_
      refine fd_aload_n C dL_law_129 rfl ?_
      refine fd_iload C dL_law_130 rfl ?_
      refine fd_iconst C dL_law_132 ?_
      refine fd_iadd C dL_law_133 ?_
      refine la_sld C hX hbl hbA (x := 4 * q + 1 + 1) (by omega) (by omega) (by omega) dL_law_134 ?_
      refine fd_aload_n C dL_law_135 rfl ?_
      refine fd_iload C dL_law_136 rfl ?_
      refine fd_iconst C dL_law_138 ?_
      refine fd_iadd C dL_law_139 ?_
      refine la_sld C hX hbl hbA (x := 4 * q + 1 + 2) (by omega) (by omega) (by omega) dL_law_140 ?_
      refine la_callS C hE hN3 (la_subO cI cB cJ L ad) (fun k i h => rfl) (la_backO M N P P o o) C.2.1 [.ref (ad 0 0), .int (fd_I (xs (4 * q + 1 + 1)).toInt), .int (fd_I (xs (4 * q + 1 + 2)).toInt)] h1 (vx_cwSW 3 C.1.2.2.2.2 (fd_cwS fw1_146 fw1_147 fw1_0 iL_limit) rfl rfl rfl ⟨by decide, by decide, by decide +kernel⟩ ⟨by show 11 + 1 ≤ 12; decide, by show 8 + (4 + 11) + 400 ≤ 436; decide⟩) rfl (Nat.le_of_ble_eq_true rfl) dL_law_141 ⟨by show 1000 + q + mc ≤ 609823; omega, by show 10000 + 6 * q + ms ≤ 7266601; omega⟩ ?_
      refine fd_istore C dL_law_144 (by decide) ?_
      refine fd_aload_n C dL_law_146 rfl ?_
      refine fd_aload_n C dL_law_147 rfl ?_
      refine fd_iload C dL_law_148 rfl ?_
      refine fd_iconst C dL_law_150 ?_
      refine fd_iadd C dL_law_151 ?_
      refine la_sld C hX hbl hbA (x := 4 * q + 1 + 1) (by omega) (by omega) (by omega) dL_law_152 ?_
      refine fd_aload_n C dL_law_153 rfl ?_
      refine fd_iload C dL_law_154 rfl ?_
      refine fd_iconst C dL_law_156 ?_
      refine fd_iadd C dL_law_157 ?_
      refine la_sld C hX hbl hbA (x := 4 * q + 1 + 2) (by omega) (by omega) (by omega) dL_law_158 ?_
      refine fd_subVv C hE (la_subM cI cB cJ L ad) (fun k i h => (la_m _ _ _ _ _).symm) (la_backM N P Q2 o) hKm [.int (fd_I (xs (4 * q + 1 + 1)).toInt), .int (fd_I (xs (4 * q + 1 + 2)).toInt)] (k := 0) (i := 0) h5 (cwV 2 C.1.2.2.2.2 (gM_limit fw3_93) rfl h4.1 h4.2.1 ⟨rfl, by decide, by decide, by decide +kernel⟩ ⟨by show rm.frames + 1 ≤ 12; omega, by show 8 + (4 + 11) + rm.locals ≤ 436; omega⟩) (mo_m (by decide)) rfl rfl rfl (Nat.le_of_ble_eq_true rfl) dL_law_159 ⟨by show 1000 + q + mc + 0 ≤ 609823; omega, by show 10000 + 6 * q + ms + 0 ≤ 7266601; omega⟩ ?_
      refine fd_aload_n C dL_law_162 rfl ?_
      refine fd_subVi C hE (la_subM cI cB cJ L ad) (fun k i h => (la_m _ _ _ _ _).symm) (la_backM N Q2 Q2 o) hKm [] (k := 0) (i := 0) (mM_thrown l D cI (la_ad ad) Q2) (cwV 0 C.1.2.2.2.2 (gM_thrown fw3_89) rfl rfl rfl ⟨rfl, by decide, by decide, by decide +kernel⟩ ⟨by decide, by decide⟩) (mo_m (by decide)) rfl rfl rfl (Nat.le_of_ble_eq_true rfl) dL_law_163 ⟨by show 1000 + q + mc + 0 ≤ 609823; omega, by show 10000 + 6 * q + ms + 0 ≤ 7266601; omega⟩ ?_
      refine fd_iload C dL_law_166 rfl ?_
      refine fd_icmp_eq C (tgt := 173) dL_law_168 rfl ⟨by omega, by omega⟩ ⟨by omega, by omega⟩ (fun hk => ?_) (fun hk => absurd h7 hk)
      refine fd_goto C (tgt := 1021) dL_law_173 rfl ?_
      exact back N Q2 o _ _ mc ms h2.1 h2.2 h9 h10
    · refine fd_tswI C (tgt := 176) dL_law_49 hw (by omega) (by omega) (by rw [hsw]; rfl) rfl ?_
      obtain ⟨k, N, Q2, mc, ms, rm, h1, h2, h3, h4, h5, h7, h9, h10⟩ := jc_price (l := l) (D := D) (cI := cI) (cB := cB) (cJ := cJ) (ad := ad) (o := o) (a := (xs (4 * q + 1 + 1)).toInt) (b := (xs (4 * q + 1 + 2)).toInt) h hl (fd_in_self _) (fd_in_self _)
      unfold jc_R at h4
      refine fd_aload_n C dL_law_176 rfl ?_
      refine fd_aload_n C dL_law_177 rfl ?_
      refine fd_iload C dL_law_178 rfl ?_
      refine fd_iconst C dL_law_180 ?_
      refine fd_iadd C dL_law_181 ?_
      refine la_sld C hX hbl hbA (x := 4 * q + 1 + 1) (by omega) (by omega) (by omega) dL_law_182 ?_
      refine fd_aload_n C dL_law_183 rfl ?_
      refine fd_iload C dL_law_184 rfl ?_
      refine fd_iconst C dL_law_186 ?_
      refine fd_iadd C dL_law_187 ?_
      refine la_sld C hX hbl hbA (x := 4 * q + 1 + 2) (by omega) (by omega) (by omega) dL_law_188 ?_
      refine la_callS C hE hN3 (la_subO cI cB cJ L ad) (fun k i h => rfl) (la_backO M N P P o o) C.2.1 [.ref (ad 0 0), .int (fd_I (xs (4 * q + 1 + 1)).toInt), .int (fd_I (xs (4 * q + 1 + 2)).toInt)] h1 (vx_cwSW 3 C.1.2.2.2.2 (fd_cwS fw2_29 fw2_30 fw1_0 iL_price) rfl rfl rfl ⟨by decide, by decide, by decide +kernel⟩ ⟨by show 11 + 1 ≤ 12; decide, by show 8 + (4 + 11) + 400 ≤ 436; decide⟩) rfl (Nat.le_of_ble_eq_true rfl) dL_law_189 ⟨by show 1000 + q + mc ≤ 609823; omega, by show 10000 + 6 * q + ms ≤ 7266601; omega⟩ ?_
      refine fd_istore C dL_law_192 (by decide) ?_
      refine fd_aload_n C dL_law_194 rfl ?_
      refine fd_aload_n C dL_law_195 rfl ?_
      refine fd_iload C dL_law_196 rfl ?_
      refine fd_iconst C dL_law_198 ?_
      refine fd_iadd C dL_law_199 ?_
      refine la_sld C hX hbl hbA (x := 4 * q + 1 + 1) (by omega) (by omega) (by omega) dL_law_200 ?_
      refine fd_aload_n C dL_law_201 rfl ?_
      refine fd_iload C dL_law_202 rfl ?_
      refine fd_iconst C dL_law_204 ?_
      refine fd_iadd C dL_law_205 ?_
      refine la_sld C hX hbl hbA (x := 4 * q + 1 + 2) (by omega) (by omega) (by omega) dL_law_206 ?_
      refine fd_subVv C hE (la_subM cI cB cJ L ad) (fun k i h => (la_m _ _ _ _ _).symm) (la_backM N P Q2 o) hKm [.int (fd_I (xs (4 * q + 1 + 1)).toInt), .int (fd_I (xs (4 * q + 1 + 2)).toInt)] (k := 0) (i := 0) h5 (cwV 2 C.1.2.2.2.2 (gM_price fw3_113) rfl h4.1 h4.2.1 ⟨rfl, by decide, by decide, by decide +kernel⟩ ⟨by show rm.frames + 1 ≤ 12; omega, by show 8 + (3 + 11) + rm.locals ≤ 436; omega⟩) (mo_m (by decide)) rfl rfl rfl (Nat.le_of_ble_eq_true rfl) dL_law_207 ⟨by show 1000 + q + mc + 0 ≤ 609823; omega, by show 10000 + 6 * q + ms + 0 ≤ 7266601; omega⟩ ?_
      refine fd_aload_n C dL_law_210 rfl ?_
      refine fd_subVi C hE (la_subM cI cB cJ L ad) (fun k i h => (la_m _ _ _ _ _).symm) (la_backM N Q2 Q2 o) hKm [] (k := 0) (i := 0) (mM_thrown l D cI (la_ad ad) Q2) (cwV 0 C.1.2.2.2.2 (gM_thrown fw3_89) rfl rfl rfl ⟨rfl, by decide, by decide, by decide +kernel⟩ ⟨by decide, by decide⟩) (mo_m (by decide)) rfl rfl rfl (Nat.le_of_ble_eq_true rfl) dL_law_211 ⟨by show 1000 + q + mc + 0 ≤ 609823; omega, by show 10000 + 6 * q + ms + 0 ≤ 7266601; omega⟩ ?_
      refine fd_iload C dL_law_214 rfl ?_
      refine fd_icmp_eq C (tgt := 221) dL_law_216 rfl ⟨by omega, by omega⟩ ⟨by omega, by omega⟩ (fun hk => ?_) (fun hk => absurd h7 hk)
      refine fd_goto C (tgt := 1021) dL_law_221 rfl ?_
      exact back N Q2 o _ _ mc ms h2.1 h2.2 h9 h10
    · refine fd_tswI C (tgt := 224) dL_law_49 hw (by omega) (by omega) (by rw [hsw]; rfl) rfl ?_
      obtain ⟨k, z, o2, N, Q2, mc, ms, rm, h1, h2, h3, h4, h5, h7, h8, h9, h10⟩ := jc_room (l := l) (D := D) (cI := cI) (cB := cB) (cJ := cJ) (ad := ad) (o := o) (a := (xs (4 * q + 1 + 1)).toInt) h hL (by omega) hl (fd_in_self _)
      unfold jc_R at h4
      refine fd_aload_n C dL_law_224 rfl ?_
      refine fd_aload_n C dL_law_225 rfl ?_
      refine fd_iload C dL_law_226 rfl ?_
      refine fd_iconst C dL_law_228 ?_
      refine fd_iadd C dL_law_229 ?_
      refine la_sld C hX hbl hbA (x := 4 * q + 1 + 1) (by omega) (by omega) (by omega) dL_law_230 ?_
      refine fd_aload_n C dL_law_231 rfl ?_
      refine la_callS C hE hN3 (la_subO cI cB cJ L ad) (fun k i h => rfl) (la_backO M N P P o o2) C.2.1 [.ref (ad 0 0), .int (fd_I (xs (4 * q + 1 + 1)).toInt), .ref (ad 10 0)] h1 (vx_cwSW 3 C.1.2.2.2.2 (fd_cwS fw2_37 fw2_38 fw1_0 iL_room) rfl rfl rfl ⟨by decide, by decide, by decide +kernel⟩ ⟨by show 11 + 1 ≤ 12; decide, by show 8 + (4 + 11) + 400 ≤ 436; decide⟩) rfl (Nat.le_of_ble_eq_true rfl) dL_law_232 ⟨by show 1000 + q + mc ≤ 609823; omega, by show 10000 + 6 * q + ms ≤ 7266601; omega⟩ ?_
      refine fd_istore C dL_law_235 (by decide) ?_
      refine fd_aload_n C dL_law_237 rfl ?_
      refine fd_aload_n C dL_law_238 rfl ?_
      refine fd_iload C dL_law_239 rfl ?_
      refine fd_iconst C dL_law_241 ?_
      refine fd_iadd C dL_law_242 ?_
      refine la_sld C hX hbl hbA (x := 4 * q + 1 + 1) (by omega) (by omega) (by omega) dL_law_243 ?_
      refine fd_subVi C hE (la_subM cI cB cJ L ad) (fun k i h => (la_m _ _ _ _ _).symm) (la_backM N P Q2 o2) hKm [.int (fd_I (xs (4 * q + 1 + 1)).toInt)] (k := 0) (i := 0) h5 (cwV 1 C.1.2.2.2.2 (gM_room fw3_117) rfl h4.1 h4.2.1 ⟨rfl, by decide, by decide, by decide +kernel⟩ ⟨by show rm.frames + 1 ≤ 12; omega, by show 8 + (2 + 11) + rm.locals ≤ 436; omega⟩) (mo_m (by decide)) rfl rfl rfl (Nat.le_of_ble_eq_true rfl) dL_law_244 ⟨by show 1000 + q + mc + 0 ≤ 609823; omega, by show 10000 + 6 * q + ms + 0 ≤ 7266601; omega⟩ ?_
      refine fd_istore C dL_law_247 (by decide) ?_
      refine fd_aload_n C dL_law_249 rfl ?_
      refine fd_subVi C hE (la_subM cI cB cJ L ad) (fun k i h => (la_m _ _ _ _ _).symm) (la_backM N Q2 Q2 o2) hKm [] (k := 0) (i := 0) (mM_thrown l D cI (la_ad ad) Q2) (cwV 0 C.1.2.2.2.2 (gM_thrown fw3_89) rfl rfl rfl ⟨rfl, by decide, by decide, by decide +kernel⟩ ⟨by decide, by decide⟩) (mo_m (by decide)) rfl rfl rfl (Nat.le_of_ble_eq_true rfl) dL_law_250 ⟨by show 1000 + q + mc + 0 ≤ 609823; omega, by show 10000 + 6 * q + ms + 0 ≤ 7266601; omega⟩ ?_
      refine fd_iload C dL_law_253 rfl ?_
      refine fd_icmp_eq C (tgt := 260) dL_law_255 rfl ⟨by omega, by omega⟩ ⟨by omega, by omega⟩ (fun hk => ?_) (fun hk => absurd h7 hk)
      refine fd_iload C dL_law_260 rfl ?_
      refine fd_if_ne C (tgt := 277) dL_law_262 rfl ⟨by omega, by omega⟩ (fun hk0 => ?_) (fun hk0 => ?_)
      · refine fd_goto C (tgt := 1021) dL_law_277 rfl ?_
        exact back N Q2 o2 _ _ mc ms h2.1 h2.2 h9 h10
      have hz : o2 = z := h8 (by omega)
      subst hz
      refine fd_aload_n C dL_law_265 rfl ?_
      refine fd_iconst C dL_law_266 ?_
      refine la_lald C la_10 (la_tJ cI cB cJ) dL_law_267 ?_
      refine fd_iload C dL_law_268 rfl ?_
      refine fd_i2l C dL_law_270 ?_
      refine la_lcmp C dL_law_271 ?_
      refine fd_if_eq C (tgt := 277) dL_law_272 rfl ⟨by omega, by omega⟩ (fun _ => ?_) (fun hk1 => absurd rfl hk1)
      refine fd_goto C (tgt := 1021) dL_law_277 rfl ?_
      exact back N Q2 o2 _ _ mc ms h2.1 h2.2 h9 h10
    · refine fd_tswI C (tgt := 280) dL_law_49 hw (by omega) (by omega) (by rw [hsw]; rfl) rfl ?_
      obtain ⟨k, z, o2, N, Q2, mc, ms, rm, h1, h2, h3, h4, h5, h7, h8, h9, h10⟩ := jc_hold (l := l) (D := D) (cI := cI) (cB := cB) (cJ := cJ) (ad := ad) (o := o) (a := (xs (4 * q + 1 + 1)).toInt) (b := (xs (4 * q + 1 + 2)).toInt) (d := (xs (4 * q + 1 + 3)).toInt) h hL (by omega) hl (fd_in_self _) (fd_in_self _) (fd_in_self _)
      unfold jc_R at h4
      refine fd_aload_n C dL_law_280 rfl ?_
      refine fd_aload_n C dL_law_281 rfl ?_
      refine fd_iload C dL_law_282 rfl ?_
      refine fd_iconst C dL_law_284 ?_
      refine fd_iadd C dL_law_285 ?_
      refine la_sld C hX hbl hbA (x := 4 * q + 1 + 1) (by omega) (by omega) (by omega) dL_law_286 ?_
      refine fd_aload_n C dL_law_287 rfl ?_
      refine fd_iload C dL_law_288 rfl ?_
      refine fd_iconst C dL_law_290 ?_
      refine fd_iadd C dL_law_291 ?_
      refine la_sld C hX hbl hbA (x := 4 * q + 1 + 2) (by omega) (by omega) (by omega) dL_law_292 ?_
      refine fd_aload_n C dL_law_293 rfl ?_
      refine fd_iload C dL_law_294 rfl ?_
      refine fd_iconst C dL_law_296 ?_
      refine fd_iadd C dL_law_297 ?_
      refine la_sld C hX hbl hbA (x := 4 * q + 1 + 3) (by omega) (by omega) (by omega) dL_law_298 ?_
      refine fd_aload_n C dL_law_299 rfl ?_
      refine la_callS C hE hN3 (la_subO cI cB cJ L ad) (fun k i h => rfl) (la_backO M N P P o o2) C.2.1 [.ref (ad 0 0), .int (fd_I (xs (4 * q + 1 + 1)).toInt), .int (fd_I (xs (4 * q + 1 + 2)).toInt), .int (fd_I (xs (4 * q + 1 + 3)).toInt), .ref (ad 10 0)] h1 (vx_cwSW 5 C.1.2.2.2.2 (fd_cwS fw2_44 fw2_45 fw1_0 iL_hold) rfl rfl rfl ⟨by decide, by decide, by decide +kernel⟩ ⟨by show 11 + 1 ≤ 12; decide, by show 8 + (6 + 11) + 400 ≤ 436; decide⟩) rfl (Nat.le_of_ble_eq_true rfl) dL_law_300 ⟨by show 1000 + q + mc ≤ 609823; omega, by show 10000 + 6 * q + ms ≤ 7266601; omega⟩ ?_
      refine fd_istore C dL_law_303 (by decide) ?_
      refine fd_aload_n C dL_law_305 rfl ?_
      refine fd_aload_n C dL_law_306 rfl ?_
      refine fd_iload C dL_law_307 rfl ?_
      refine fd_iconst C dL_law_309 ?_
      refine fd_iadd C dL_law_310 ?_
      refine la_sld C hX hbl hbA (x := 4 * q + 1 + 1) (by omega) (by omega) (by omega) dL_law_311 ?_
      refine fd_aload_n C dL_law_312 rfl ?_
      refine fd_iload C dL_law_313 rfl ?_
      refine fd_iconst C dL_law_315 ?_
      refine fd_iadd C dL_law_316 ?_
      refine la_sld C hX hbl hbA (x := 4 * q + 1 + 2) (by omega) (by omega) (by omega) dL_law_317 ?_
      refine fd_aload_n C dL_law_318 rfl ?_
      refine fd_iload C dL_law_319 rfl ?_
      refine fd_iconst C dL_law_321 ?_
      refine fd_iadd C dL_law_322 ?_
      refine la_sld C hX hbl hbA (x := 4 * q + 1 + 3) (by omega) (by omega) (by omega) dL_law_323 ?_
      refine fd_subVi C hE (la_subM cI cB cJ L ad) (fun k i h => (la_m _ _ _ _ _).symm) (la_backM N P Q2 o2) hKm [.int (fd_I (xs (4 * q + 1 + 1)).toInt), .int (fd_I (xs (4 * q + 1 + 2)).toInt), .int (fd_I (xs (4 * q + 1 + 3)).toInt)] (k := 0) (i := 0) h5 (cwV 3 C.1.2.2.2.2 (gM_hold fw3_121) rfl h4.1 h4.2.1 ⟨rfl, by decide, by decide, by decide +kernel⟩ ⟨by show rm.frames + 1 ≤ 12; omega, by show 8 + (4 + 11) + rm.locals ≤ 436; omega⟩) (mo_m (by decide)) rfl rfl rfl (Nat.le_of_ble_eq_true rfl) dL_law_324 ⟨by show 1000 + q + mc + 0 ≤ 609823; omega, by show 10000 + 6 * q + ms + 0 ≤ 7266601; omega⟩ ?_
      refine fd_istore C dL_law_327 (by decide) ?_
      refine fd_aload_n C dL_law_329 rfl ?_
      refine fd_subVi C hE (la_subM cI cB cJ L ad) (fun k i h => (la_m _ _ _ _ _).symm) (la_backM N Q2 Q2 o2) hKm [] (k := 0) (i := 0) (mM_thrown l D cI (la_ad ad) Q2) (cwV 0 C.1.2.2.2.2 (gM_thrown fw3_89) rfl rfl rfl ⟨rfl, by decide, by decide, by decide +kernel⟩ ⟨by decide, by decide⟩) (mo_m (by decide)) rfl rfl rfl (Nat.le_of_ble_eq_true rfl) dL_law_330 ⟨by show 1000 + q + mc + 0 ≤ 609823; omega, by show 10000 + 6 * q + ms + 0 ≤ 7266601; omega⟩ ?_
      refine fd_iload C dL_law_333 rfl ?_
      refine fd_icmp_eq C (tgt := 340) dL_law_335 rfl ⟨by omega, by omega⟩ ⟨by omega, by omega⟩ (fun hk => ?_) (fun hk => absurd h7 hk)
      refine fd_iload C dL_law_340 rfl ?_
      refine fd_if_ne C (tgt := 357) dL_law_342 rfl ⟨by omega, by omega⟩ (fun hk0 => ?_) (fun hk0 => ?_)
      · refine fd_goto C (tgt := 1021) dL_law_357 rfl ?_
        exact back N Q2 o2 _ _ mc ms h2.1 h2.2 h9 h10
      have hz : o2 = z := h8 (by omega)
      subst hz
      refine fd_aload_n C dL_law_345 rfl ?_
      refine fd_iconst C dL_law_346 ?_
      refine la_lald C la_10 (la_tJ cI cB cJ) dL_law_347 ?_
      refine fd_iload C dL_law_348 rfl ?_
      refine fd_i2l C dL_law_350 ?_
      refine la_lcmp C dL_law_351 ?_
      refine fd_if_eq C (tgt := 357) dL_law_352 rfl ⟨by omega, by omega⟩ (fun _ => ?_) (fun hk1 => absurd rfl hk1)
      refine fd_goto C (tgt := 1021) dL_law_357 rfl ?_
      exact back N Q2 o2 _ _ mc ms h2.1 h2.2 h9 h10
    · refine fd_tswI C (tgt := 360) dL_law_49 hw (by omega) (by omega) (by rw [hsw]; rfl) rfl ?_
      obtain ⟨k, z, o2, N, Q2, mc, ms, rm, h1, h2, h3, h4, h5, h7, h8, h9, h10⟩ := jc_join (l := l) (D := D) (cI := cI) (cB := cB) (cJ := cJ) (ad := ad) (o := o) (a := (xs (4 * q + 1 + 1)).toInt) (b := (xs (4 * q + 1 + 2)).toInt) (d := (xs (4 * q + 1 + 3)).toInt) h hL (by omega) hl (fd_in_self _) (fd_in_self _) (fd_in_self _)
      unfold jc_R at h4
      refine fd_aload_n C dL_law_360 rfl ?_
      refine fd_aload_n C dL_law_361 rfl ?_
      refine fd_iload C dL_law_362 rfl ?_
      refine fd_iconst C dL_law_364 ?_
      refine fd_iadd C dL_law_365 ?_
      refine la_sld C hX hbl hbA (x := 4 * q + 1 + 1) (by omega) (by omega) (by omega) dL_law_366 ?_
      refine fd_aload_n C dL_law_367 rfl ?_
      refine fd_iload C dL_law_368 rfl ?_
      refine fd_iconst C dL_law_370 ?_
      refine fd_iadd C dL_law_371 ?_
      refine la_sld C hX hbl hbA (x := 4 * q + 1 + 2) (by omega) (by omega) (by omega) dL_law_372 ?_
      refine fd_aload_n C dL_law_373 rfl ?_
      refine fd_iload C dL_law_374 rfl ?_
      refine fd_iconst C dL_law_376 ?_
      refine fd_iadd C dL_law_377 ?_
      refine la_sld C hX hbl hbA (x := 4 * q + 1 + 3) (by omega) (by omega) (by omega) dL_law_378 ?_
      refine fd_aload_n C dL_law_379 rfl ?_
      refine la_callS C hE hN3 (la_subO cI cB cJ L ad) (fun k i h => rfl) (la_backO M N P P o o2) C.2.1 [.ref (ad 0 0), .int (fd_I (xs (4 * q + 1 + 1)).toInt), .int (fd_I (xs (4 * q + 1 + 2)).toInt), .int (fd_I (xs (4 * q + 1 + 3)).toInt), .ref (ad 10 0)] h1 (vx_cwSW 5 C.1.2.2.2.2 (fd_cwS fw2_83 fw2_84 fw1_0 iL_join) rfl rfl rfl ⟨by decide, by decide, by decide +kernel⟩ ⟨by show 11 + 1 ≤ 12; decide, by show 8 + (6 + 11) + 400 ≤ 436; decide⟩) rfl (Nat.le_of_ble_eq_true rfl) dL_law_380 ⟨by show 1000 + q + mc ≤ 609823; omega, by show 10000 + 6 * q + ms ≤ 7266601; omega⟩ ?_
      refine fd_istore C dL_law_383 (by decide) ?_
      refine fd_aload_n C dL_law_385 rfl ?_
      refine fd_aload_n C dL_law_386 rfl ?_
      refine fd_iload C dL_law_387 rfl ?_
      refine fd_iconst C dL_law_389 ?_
      refine fd_iadd C dL_law_390 ?_
      refine la_sld C hX hbl hbA (x := 4 * q + 1 + 1) (by omega) (by omega) (by omega) dL_law_391 ?_
      refine fd_aload_n C dL_law_392 rfl ?_
      refine fd_iload C dL_law_393 rfl ?_
      refine fd_iconst C dL_law_395 ?_
      refine fd_iadd C dL_law_396 ?_
      refine la_sld C hX hbl hbA (x := 4 * q + 1 + 2) (by omega) (by omega) (by omega) dL_law_397 ?_
      refine fd_aload_n C dL_law_398 rfl ?_
      refine fd_iload C dL_law_399 rfl ?_
      refine fd_iconst C dL_law_401 ?_
      refine fd_iadd C dL_law_402 ?_
      refine la_sld C hX hbl hbA (x := 4 * q + 1 + 3) (by omega) (by omega) (by omega) dL_law_403 ?_
      refine fd_subVi C hE (la_subM cI cB cJ L ad) (fun k i h => (la_m _ _ _ _ _).symm) (la_backM N P Q2 o2) hKm [.int (fd_I (xs (4 * q + 1 + 1)).toInt), .int (fd_I (xs (4 * q + 1 + 2)).toInt), .int (fd_I (xs (4 * q + 1 + 3)).toInt)] (k := 0) (i := 0) h5 (cwV 3 C.1.2.2.2.2 (gM_join fw3_133) rfl h4.1 h4.2.1 ⟨rfl, by decide, by decide, by decide +kernel⟩ ⟨by show rm.frames + 1 ≤ 12; omega, by show 8 + (5 + 11) + rm.locals ≤ 436; omega⟩) (mo_m (by decide)) rfl rfl rfl (Nat.le_of_ble_eq_true rfl) dL_law_404 ⟨by show 1000 + q + mc + 0 ≤ 609823; omega, by show 10000 + 6 * q + ms + 0 ≤ 7266601; omega⟩ ?_
      refine fd_istore C dL_law_407 (by decide) ?_
      refine fd_aload_n C dL_law_409 rfl ?_
      refine fd_subVi C hE (la_subM cI cB cJ L ad) (fun k i h => (la_m _ _ _ _ _).symm) (la_backM N Q2 Q2 o2) hKm [] (k := 0) (i := 0) (mM_thrown l D cI (la_ad ad) Q2) (cwV 0 C.1.2.2.2.2 (gM_thrown fw3_89) rfl rfl rfl ⟨rfl, by decide, by decide, by decide +kernel⟩ ⟨by decide, by decide⟩) (mo_m (by decide)) rfl rfl rfl (Nat.le_of_ble_eq_true rfl) dL_law_410 ⟨by show 1000 + q + mc + 0 ≤ 609823; omega, by show 10000 + 6 * q + ms + 0 ≤ 7266601; omega⟩ ?_
      refine fd_iload C dL_law_413 rfl ?_
      refine fd_icmp_eq C (tgt := 420) dL_law_415 rfl ⟨by omega, by omega⟩ ⟨by omega, by omega⟩ (fun hk => ?_) (fun hk => absurd h7 hk)
      refine fd_iload C dL_law_420 rfl ?_
      refine fd_if_ne C (tgt := 437) dL_law_422 rfl ⟨by omega, by omega⟩ (fun hk0 => ?_) (fun hk0 => ?_)
      · refine fd_goto C (tgt := 1021) dL_law_437 rfl ?_
        exact back N Q2 o2 _ _ mc ms h2.1 h2.2 h9 h10
      have hz : o2 = z := h8 (by omega)
      subst hz
      refine fd_aload_n C dL_law_425 rfl ?_
      refine fd_iconst C dL_law_426 ?_
      refine la_lald C la_10 (la_tJ cI cB cJ) dL_law_427 ?_
      refine fd_iload C dL_law_428 rfl ?_
      refine fd_i2l C dL_law_430 ?_
      refine la_lcmp C dL_law_431 ?_
      refine fd_if_eq C (tgt := 437) dL_law_432 rfl ⟨by omega, by omega⟩ (fun _ => ?_) (fun hk1 => absurd rfl hk1)
      refine fd_goto C (tgt := 1021) dL_law_437 rfl ?_
      exact back N Q2 o2 _ _ mc ms h2.1 h2.2 h9 h10
    · refine fd_tswI C (tgt := 440) dL_law_49 hw (by omega) (by omega) (by rw [hsw]; rfl) rfl ?_
      obtain ⟨k, z, o2, N, Q2, mc, ms, rm, h1, h2, h3, h4, h5, h7, h8, h9, h10⟩ := jc_confirm (l := l) (D := D) (cI := cI) (cB := cB) (cJ := cJ) (ad := ad) (o := o) (a := (xs (4 * q + 1 + 1)).toInt) h hL (by omega) hl (fd_in_self _)
      unfold jc_R at h4
      refine fd_aload_n C dL_law_440 rfl ?_
      refine fd_aload_n C dL_law_441 rfl ?_
      refine fd_iload C dL_law_442 rfl ?_
      refine fd_iconst C dL_law_444 ?_
      refine fd_iadd C dL_law_445 ?_
      refine la_sld C hX hbl hbA (x := 4 * q + 1 + 1) (by omega) (by omega) (by omega) dL_law_446 ?_
      refine fd_aload_n C dL_law_447 rfl ?_
      refine la_callS C hE hN3 (la_subO cI cB cJ L ad) (fun k i h => rfl) (la_backO M N P P o o2) C.2.1 [.ref (ad 0 0), .int (fd_I (xs (4 * q + 1 + 1)).toInt), .ref (ad 10 0)] h1 (vx_cwSW 3 C.1.2.2.2.2 (fd_cwS fw2_90 fw2_91 fw1_0 iL_confirm) rfl rfl rfl ⟨by decide, by decide, by decide +kernel⟩ ⟨by show 11 + 1 ≤ 12; decide, by show 8 + (4 + 11) + 400 ≤ 436; decide⟩) rfl (Nat.le_of_ble_eq_true rfl) dL_law_448 ⟨by show 1000 + q + mc ≤ 609823; omega, by show 10000 + 6 * q + ms ≤ 7266601; omega⟩ ?_
      refine fd_istore C dL_law_451 (by decide) ?_
      refine fd_aload_n C dL_law_453 rfl ?_
      refine fd_aload_n C dL_law_454 rfl ?_
      refine fd_iload C dL_law_455 rfl ?_
      refine fd_iconst C dL_law_457 ?_
      refine fd_iadd C dL_law_458 ?_
      refine la_sld C hX hbl hbA (x := 4 * q + 1 + 1) (by omega) (by omega) (by omega) dL_law_459 ?_
      refine fd_subVi C hE (la_subM cI cB cJ L ad) (fun k i h => (la_m _ _ _ _ _).symm) (la_backM N P Q2 o2) hKm [.int (fd_I (xs (4 * q + 1 + 1)).toInt)] (k := 0) (i := 0) h5 (cwV 1 C.1.2.2.2.2 (gM_confirm fw3_137) rfl h4.1 h4.2.1 ⟨rfl, by decide, by decide, by decide +kernel⟩ ⟨by show rm.frames + 1 ≤ 12; omega, by show 8 + (2 + 11) + rm.locals ≤ 436; omega⟩) (mo_m (by decide)) rfl rfl rfl (Nat.le_of_ble_eq_true rfl) dL_law_460 ⟨by show 1000 + q + mc + 0 ≤ 609823; omega, by show 10000 + 6 * q + ms + 0 ≤ 7266601; omega⟩ ?_
      refine fd_istore C dL_law_463 (by decide) ?_
      refine fd_aload_n C dL_law_465 rfl ?_
      refine fd_subVi C hE (la_subM cI cB cJ L ad) (fun k i h => (la_m _ _ _ _ _).symm) (la_backM N Q2 Q2 o2) hKm [] (k := 0) (i := 0) (mM_thrown l D cI (la_ad ad) Q2) (cwV 0 C.1.2.2.2.2 (gM_thrown fw3_89) rfl rfl rfl ⟨rfl, by decide, by decide, by decide +kernel⟩ ⟨by decide, by decide⟩) (mo_m (by decide)) rfl rfl rfl (Nat.le_of_ble_eq_true rfl) dL_law_466 ⟨by show 1000 + q + mc + 0 ≤ 609823; omega, by show 10000 + 6 * q + ms + 0 ≤ 7266601; omega⟩ ?_
      refine fd_iload C dL_law_469 rfl ?_
      refine fd_icmp_eq C (tgt := 476) dL_law_471 rfl ⟨by omega, by omega⟩ ⟨by omega, by omega⟩ (fun hk => ?_) (fun hk => absurd h7 hk)
      refine fd_iload C dL_law_476 rfl ?_
      refine fd_if_ne C (tgt := 493) dL_law_478 rfl ⟨by omega, by omega⟩ (fun hk0 => ?_) (fun hk0 => ?_)
      · refine fd_goto C (tgt := 1021) dL_law_493 rfl ?_
        exact back N Q2 o2 _ _ mc ms h2.1 h2.2 h9 h10
      have hz : o2 = z := h8 (by omega)
      subst hz
      refine fd_aload_n C dL_law_481 rfl ?_
      refine fd_iconst C dL_law_482 ?_
      refine la_lald C la_10 (la_tJ cI cB cJ) dL_law_483 ?_
      refine fd_iload C dL_law_484 rfl ?_
      refine fd_i2l C dL_law_486 ?_
      refine la_lcmp C dL_law_487 ?_
      refine fd_if_eq C (tgt := 493) dL_law_488 rfl ⟨by omega, by omega⟩ (fun _ => ?_) (fun hk1 => absurd rfl hk1)
      refine fd_goto C (tgt := 1021) dL_law_493 rfl ?_
      exact back N Q2 o2 _ _ mc ms h2.1 h2.2 h9 h10
    · refine fd_tswI C (tgt := 496) dL_law_49 hw (by omega) (by omega) (by rw [hsw]; rfl) rfl ?_
      obtain ⟨k, z, o2, N, Q2, mc, ms, rm, h1, h2, h3, h4, h5, h7, h8, h9, h10⟩ := jc_cancel (l := l) (D := D) (cI := cI) (cB := cB) (cJ := cJ) (ad := ad) (o := o) (a := (xs (4 * q + 1 + 1)).toInt) h hL (by omega) hl (fd_in_self _)
      unfold jc_R at h4
      refine fd_aload_n C dL_law_496 rfl ?_
      refine fd_aload_n C dL_law_497 rfl ?_
      refine fd_iload C dL_law_498 rfl ?_
      refine fd_iconst C dL_law_500 ?_
      refine fd_iadd C dL_law_501 ?_
      refine la_sld C hX hbl hbA (x := 4 * q + 1 + 1) (by omega) (by omega) (by omega) dL_law_502 ?_
      refine fd_aload_n C dL_law_503 rfl ?_
      refine la_callS C hE hN3 (la_subO cI cB cJ L ad) (fun k i h => rfl) (la_backO M N P P o o2) C.2.1 [.ref (ad 0 0), .int (fd_I (xs (4 * q + 1 + 1)).toInt), .ref (ad 10 0)] h1 (vx_cwSW 3 C.1.2.2.2.2 (fd_cwS fw2_103 fw2_104 fw1_0 iL_cancel) rfl rfl rfl ⟨by decide, by decide, by decide +kernel⟩ ⟨by show 11 + 1 ≤ 12; decide, by show 8 + (4 + 11) + 400 ≤ 436; decide⟩) rfl (Nat.le_of_ble_eq_true rfl) dL_law_504 ⟨by show 1000 + q + mc ≤ 609823; omega, by show 10000 + 6 * q + ms ≤ 7266601; omega⟩ ?_
      refine fd_istore C dL_law_507 (by decide) ?_
      refine fd_aload_n C dL_law_509 rfl ?_
      refine fd_aload_n C dL_law_510 rfl ?_
      refine fd_iload C dL_law_511 rfl ?_
      refine fd_iconst C dL_law_513 ?_
      refine fd_iadd C dL_law_514 ?_
      refine la_sld C hX hbl hbA (x := 4 * q + 1 + 1) (by omega) (by omega) (by omega) dL_law_515 ?_
      refine fd_subVi C hE (la_subM cI cB cJ L ad) (fun k i h => (la_m _ _ _ _ _).symm) (la_backM N P Q2 o2) hKm [.int (fd_I (xs (4 * q + 1 + 1)).toInt)] (k := 0) (i := 0) h5 (cwV 1 C.1.2.2.2.2 (gM_cancel fw3_145) rfl h4.1 h4.2.1 ⟨rfl, by decide, by decide, by decide +kernel⟩ ⟨by show rm.frames + 1 ≤ 12; omega, by show 8 + (3 + 11) + rm.locals ≤ 436; omega⟩) (mo_m (by decide)) rfl rfl rfl (Nat.le_of_ble_eq_true rfl) dL_law_516 ⟨by show 1000 + q + mc + 0 ≤ 609823; omega, by show 10000 + 6 * q + ms + 0 ≤ 7266601; omega⟩ ?_
      refine fd_istore C dL_law_519 (by decide) ?_
      refine fd_aload_n C dL_law_521 rfl ?_
      refine fd_subVi C hE (la_subM cI cB cJ L ad) (fun k i h => (la_m _ _ _ _ _).symm) (la_backM N Q2 Q2 o2) hKm [] (k := 0) (i := 0) (mM_thrown l D cI (la_ad ad) Q2) (cwV 0 C.1.2.2.2.2 (gM_thrown fw3_89) rfl rfl rfl ⟨rfl, by decide, by decide, by decide +kernel⟩ ⟨by decide, by decide⟩) (mo_m (by decide)) rfl rfl rfl (Nat.le_of_ble_eq_true rfl) dL_law_522 ⟨by show 1000 + q + mc + 0 ≤ 609823; omega, by show 10000 + 6 * q + ms + 0 ≤ 7266601; omega⟩ ?_
      refine fd_iload C dL_law_525 rfl ?_
      refine fd_icmp_eq C (tgt := 532) dL_law_527 rfl ⟨by omega, by omega⟩ ⟨by omega, by omega⟩ (fun hk => ?_) (fun hk => absurd h7 hk)
      refine fd_iload C dL_law_532 rfl ?_
      refine fd_if_ne C (tgt := 549) dL_law_534 rfl ⟨by omega, by omega⟩ (fun hk0 => ?_) (fun hk0 => ?_)
      · refine fd_goto C (tgt := 1021) dL_law_549 rfl ?_
        exact back N Q2 o2 _ _ mc ms h2.1 h2.2 h9 h10
      have hz : o2 = z := h8 (by omega)
      subst hz
      refine fd_aload_n C dL_law_537 rfl ?_
      refine fd_iconst C dL_law_538 ?_
      refine la_lald C la_10 (la_tJ cI cB cJ) dL_law_539 ?_
      refine fd_iload C dL_law_540 rfl ?_
      refine fd_i2l C dL_law_542 ?_
      refine la_lcmp C dL_law_543 ?_
      refine fd_if_eq C (tgt := 549) dL_law_544 rfl ⟨by omega, by omega⟩ (fun _ => ?_) (fun hk1 => absurd rfl hk1)
      refine fd_goto C (tgt := 1021) dL_law_549 rfl ?_
      exact back N Q2 o2 _ _ mc ms h2.1 h2.2 h9 h10
    · refine fd_tswI C (tgt := 552) dL_law_49 hw (by omega) (by omega) (by rw [hsw]; rfl) rfl ?_
      obtain ⟨k, z, o2, N, Q2, mc, ms, rm, h1, h2, h3, h4, h5, h7, h8, h9, h10⟩ := jc_shrink (l := l) (D := D) (cI := cI) (cB := cB) (cJ := cJ) (ad := ad) (o := o) (a := (xs (4 * q + 1 + 1)).toInt) (b := (xs (4 * q + 1 + 2)).toInt) h hL (by omega) hl (fd_in_self _) (fd_in_self _)
      unfold jc_R at h4
      refine fd_aload_n C dL_law_552 rfl ?_
      refine fd_aload_n C dL_law_553 rfl ?_
      refine fd_iload C dL_law_554 rfl ?_
      refine fd_iconst C dL_law_556 ?_
      refine fd_iadd C dL_law_557 ?_
      refine la_sld C hX hbl hbA (x := 4 * q + 1 + 1) (by omega) (by omega) (by omega) dL_law_558 ?_
      refine fd_aload_n C dL_law_559 rfl ?_
      refine fd_iload C dL_law_560 rfl ?_
      refine fd_iconst C dL_law_562 ?_
      refine fd_iadd C dL_law_563 ?_
      refine la_sld C hX hbl hbA (x := 4 * q + 1 + 2) (by omega) (by omega) (by omega) dL_law_564 ?_
      refine fd_aload_n C dL_law_565 rfl ?_
      refine la_callS C hE hN3 (la_subO cI cB cJ L ad) (fun k i h => rfl) (la_backO M N P P o o2) C.2.1 [.ref (ad 0 0), .int (fd_I (xs (4 * q + 1 + 1)).toInt), .int (fd_I (xs (4 * q + 1 + 2)).toInt), .ref (ad 10 0)] h1 (vx_cwSW 4 C.1.2.2.2.2 (fd_cwS fw2_139 fw2_140 fw1_0 iL_shrink) rfl rfl rfl ⟨by decide, by decide, by decide +kernel⟩ ⟨by show 11 + 1 ≤ 12; decide, by show 8 + (5 + 11) + 400 ≤ 436; decide⟩) rfl (Nat.le_of_ble_eq_true rfl) dL_law_566 ⟨by show 1000 + q + mc ≤ 609823; omega, by show 10000 + 6 * q + ms ≤ 7266601; omega⟩ ?_
      refine fd_istore C dL_law_569 (by decide) ?_
      refine fd_aload_n C dL_law_571 rfl ?_
      refine fd_aload_n C dL_law_572 rfl ?_
      refine fd_iload C dL_law_573 rfl ?_
      refine fd_iconst C dL_law_575 ?_
      refine fd_iadd C dL_law_576 ?_
      refine la_sld C hX hbl hbA (x := 4 * q + 1 + 1) (by omega) (by omega) (by omega) dL_law_577 ?_
      refine fd_aload_n C dL_law_578 rfl ?_
      refine fd_iload C dL_law_579 rfl ?_
      refine fd_iconst C dL_law_581 ?_
      refine fd_iadd C dL_law_582 ?_
      refine la_sld C hX hbl hbA (x := 4 * q + 1 + 2) (by omega) (by omega) (by omega) dL_law_583 ?_
      refine fd_subVi C hE (la_subM cI cB cJ L ad) (fun k i h => (la_m _ _ _ _ _).symm) (la_backM N P Q2 o2) hKm [.int (fd_I (xs (4 * q + 1 + 1)).toInt), .int (fd_I (xs (4 * q + 1 + 2)).toInt)] (k := 0) (i := 0) h5 (cwV 2 C.1.2.2.2.2 (gM_shrink fw3_157) rfl h4.1 h4.2.1 ⟨rfl, by decide, by decide, by decide +kernel⟩ ⟨by show rm.frames + 1 ≤ 12; omega, by show 8 + (4 + 11) + rm.locals ≤ 436; omega⟩) (mo_m (by decide)) rfl rfl rfl (Nat.le_of_ble_eq_true rfl) dL_law_584 ⟨by show 1000 + q + mc + 0 ≤ 609823; omega, by show 10000 + 6 * q + ms + 0 ≤ 7266601; omega⟩ ?_
      refine fd_istore C dL_law_587 (by decide) ?_
      refine fd_aload_n C dL_law_589 rfl ?_
      refine fd_subVi C hE (la_subM cI cB cJ L ad) (fun k i h => (la_m _ _ _ _ _).symm) (la_backM N Q2 Q2 o2) hKm [] (k := 0) (i := 0) (mM_thrown l D cI (la_ad ad) Q2) (cwV 0 C.1.2.2.2.2 (gM_thrown fw3_89) rfl rfl rfl ⟨rfl, by decide, by decide, by decide +kernel⟩ ⟨by decide, by decide⟩) (mo_m (by decide)) rfl rfl rfl (Nat.le_of_ble_eq_true rfl) dL_law_590 ⟨by show 1000 + q + mc + 0 ≤ 609823; omega, by show 10000 + 6 * q + ms + 0 ≤ 7266601; omega⟩ ?_
      refine fd_iload C dL_law_593 rfl ?_
      refine fd_icmp_eq C (tgt := 600) dL_law_595 rfl ⟨by omega, by omega⟩ ⟨by omega, by omega⟩ (fun hk => ?_) (fun hk => absurd h7 hk)
      refine fd_iload C dL_law_600 rfl ?_
      refine fd_if_ne C (tgt := 617) dL_law_602 rfl ⟨by omega, by omega⟩ (fun hk0 => ?_) (fun hk0 => ?_)
      · refine fd_goto C (tgt := 1021) dL_law_617 rfl ?_
        exact back N Q2 o2 _ _ mc ms h2.1 h2.2 h9 h10
      have hz : o2 = z := h8 (by omega)
      subst hz
      refine fd_aload_n C dL_law_605 rfl ?_
      refine fd_iconst C dL_law_606 ?_
      refine la_lald C la_10 (la_tJ cI cB cJ) dL_law_607 ?_
      refine fd_iload C dL_law_608 rfl ?_
      refine fd_i2l C dL_law_610 ?_
      refine la_lcmp C dL_law_611 ?_
      refine fd_if_eq C (tgt := 617) dL_law_612 rfl ⟨by omega, by omega⟩ (fun _ => ?_) (fun hk1 => absurd rfl hk1)
      refine fd_goto C (tgt := 1021) dL_law_617 rfl ?_
      exact back N Q2 o2 _ _ mc ms h2.1 h2.2 h9 h10
    · refine fd_tswI C (tgt := 620) dL_law_49 hw (by omega) (by omega) (by rw [hsw]; rfl) rfl ?_
      obtain ⟨k, N, Q2, mc, ms, rm, h1, h2, h3, h4, h5, h7, h9, h10⟩ := jc_change (l := l) (D := D) (cI := cI) (cB := cB) (cJ := cJ) (ad := ad) (o := o) (a := (xs (4 * q + 1 + 1)).toInt) (b := (xs (4 * q + 1 + 2)).toInt) h hL (by omega) hl (fd_in_self _) (fd_in_self _)
      unfold jc_R at h4
      refine fd_aload_n C dL_law_620 rfl ?_
      refine fd_aload_n C dL_law_621 rfl ?_
      refine fd_iload C dL_law_622 rfl ?_
      refine fd_iconst C dL_law_624 ?_
      refine fd_iadd C dL_law_625 ?_
      refine la_sld C hX hbl hbA (x := 4 * q + 1 + 1) (by omega) (by omega) (by omega) dL_law_626 ?_
      refine fd_aload_n C dL_law_627 rfl ?_
      refine fd_iload C dL_law_628 rfl ?_
      refine fd_iconst C dL_law_630 ?_
      refine fd_iadd C dL_law_631 ?_
      refine la_sld C hX hbl hbA (x := 4 * q + 1 + 2) (by omega) (by omega) (by omega) dL_law_632 ?_
      refine la_callS C hE hN3 (la_subO cI cB cJ L ad) (fun k i h => rfl) (la_backO M N P P o o) C.2.1 [.ref (ad 0 0), .int (fd_I (xs (4 * q + 1 + 1)).toInt), .int (fd_I (xs (4 * q + 1 + 2)).toInt)] h1 (vx_cwSW 3 C.1.2.2.2.2 (fd_cwS fw2_147 fw2_148 fw1_0 iL_change) rfl rfl rfl ⟨by decide, by decide, by decide +kernel⟩ ⟨by show 11 + 1 ≤ 12; decide, by show 8 + (4 + 11) + 400 ≤ 436; decide⟩) rfl (Nat.le_of_ble_eq_true rfl) dL_law_633 ⟨by show 1000 + q + mc ≤ 609823; omega, by show 10000 + 6 * q + ms ≤ 7266601; omega⟩ ?_
      refine fd_istore C dL_law_636 (by decide) ?_
      refine fd_aload_n C dL_law_638 rfl ?_
      refine fd_aload_n C dL_law_639 rfl ?_
      refine fd_iload C dL_law_640 rfl ?_
      refine fd_iconst C dL_law_642 ?_
      refine fd_iadd C dL_law_643 ?_
      refine la_sld C hX hbl hbA (x := 4 * q + 1 + 1) (by omega) (by omega) (by omega) dL_law_644 ?_
      refine fd_aload_n C dL_law_645 rfl ?_
      refine fd_iload C dL_law_646 rfl ?_
      refine fd_iconst C dL_law_648 ?_
      refine fd_iadd C dL_law_649 ?_
      refine la_sld C hX hbl hbA (x := 4 * q + 1 + 2) (by omega) (by omega) (by omega) dL_law_650 ?_
      refine fd_subVv C hE (la_subM cI cB cJ L ad) (fun k i h => (la_m _ _ _ _ _).symm) (la_backM N P Q2 o) hKm [.int (fd_I (xs (4 * q + 1 + 1)).toInt), .int (fd_I (xs (4 * q + 1 + 2)).toInt)] (k := 0) (i := 0) h5 (cwV 2 C.1.2.2.2.2 (gM_change fw3_161) rfl h4.1 h4.2.1 ⟨rfl, by decide, by decide, by decide +kernel⟩ ⟨by show rm.frames + 1 ≤ 12; omega, by show 8 + (3 + 11) + rm.locals ≤ 436; omega⟩) (mo_m (by decide)) rfl rfl rfl (Nat.le_of_ble_eq_true rfl) dL_law_651 ⟨by show 1000 + q + mc + 0 ≤ 609823; omega, by show 10000 + 6 * q + ms + 0 ≤ 7266601; omega⟩ ?_
      refine fd_aload_n C dL_law_654 rfl ?_
      refine fd_subVi C hE (la_subM cI cB cJ L ad) (fun k i h => (la_m _ _ _ _ _).symm) (la_backM N Q2 Q2 o) hKm [] (k := 0) (i := 0) (mM_thrown l D cI (la_ad ad) Q2) (cwV 0 C.1.2.2.2.2 (gM_thrown fw3_89) rfl rfl rfl ⟨rfl, by decide, by decide, by decide +kernel⟩ ⟨by decide, by decide⟩) (mo_m (by decide)) rfl rfl rfl (Nat.le_of_ble_eq_true rfl) dL_law_655 ⟨by show 1000 + q + mc + 0 ≤ 609823; omega, by show 10000 + 6 * q + ms + 0 ≤ 7266601; omega⟩ ?_
      refine fd_iload C dL_law_658 rfl ?_
      refine fd_icmp_eq C (tgt := 665) dL_law_660 rfl ⟨by omega, by omega⟩ ⟨by omega, by omega⟩ (fun hk => ?_) (fun hk => absurd h7 hk)
      refine fd_goto C (tgt := 1021) dL_law_665 rfl ?_
      exact back N Q2 o _ _ mc ms h2.1 h2.2 h9 h10
    · refine fd_tswI C (tgt := 668) dL_law_49 hw (by omega) (by omega) (by rw [hsw]; rfl) rfl ?_
      obtain ⟨k, z, o2, N, Q2, mc, ms, rm, h1, h2, h3, h4, h5, h7, h8, h9, h10⟩ := jc_seat (l := l) (D := D) (cI := cI) (cB := cB) (cJ := cJ) (ad := ad) (o := o) (a := (xs (4 * q + 1 + 1)).toInt) (b := (xs (4 * q + 1 + 2)).toInt) h hL (by omega) hl (fd_in_self _) (fd_in_self _)
      unfold jc_R at h4
      refine fd_aload_n C dL_law_668 rfl ?_
      refine fd_aload_n C dL_law_669 rfl ?_
      refine fd_iload C dL_law_670 rfl ?_
      refine fd_iconst C dL_law_672 ?_
      refine fd_iadd C dL_law_673 ?_
      refine la_sld C hX hbl hbA (x := 4 * q + 1 + 1) (by omega) (by omega) (by omega) dL_law_674 ?_
      refine fd_aload_n C dL_law_675 rfl ?_
      refine fd_iload C dL_law_676 rfl ?_
      refine fd_iconst C dL_law_678 ?_
      refine fd_iadd C dL_law_679 ?_
      refine la_sld C hX hbl hbA (x := 4 * q + 1 + 2) (by omega) (by omega) (by omega) dL_law_680 ?_
      refine fd_aload_n C dL_law_681 rfl ?_
      refine la_callS C hE hN3 (la_subO cI cB cJ L ad) (fun k i h => rfl) (la_backO M N P P o o2) C.2.1 [.ref (ad 0 0), .int (fd_I (xs (4 * q + 1 + 1)).toInt), .int (fd_I (xs (4 * q + 1 + 2)).toInt), .ref (ad 10 0)] h1 (vx_cwSW 4 C.1.2.2.2.2 (fd_cwS fw2_161 fw2_162 fw1_0 iL_seat) rfl rfl rfl ⟨by decide, by decide, by decide +kernel⟩ ⟨by show 11 + 1 ≤ 12; decide, by show 8 + (5 + 11) + 400 ≤ 436; decide⟩) rfl (Nat.le_of_ble_eq_true rfl) dL_law_682 ⟨by show 1000 + q + mc ≤ 609823; omega, by show 10000 + 6 * q + ms ≤ 7266601; omega⟩ ?_
      refine fd_istore C dL_law_685 (by decide) ?_
      refine fd_aload_n C dL_law_687 rfl ?_
      refine fd_aload_n C dL_law_688 rfl ?_
      refine fd_iload C dL_law_689 rfl ?_
      refine fd_iconst C dL_law_691 ?_
      refine fd_iadd C dL_law_692 ?_
      refine la_sld C hX hbl hbA (x := 4 * q + 1 + 1) (by omega) (by omega) (by omega) dL_law_693 ?_
      refine fd_aload_n C dL_law_694 rfl ?_
      refine fd_iload C dL_law_695 rfl ?_
      refine fd_iconst C dL_law_697 ?_
      refine fd_iadd C dL_law_698 ?_
      refine la_sld C hX hbl hbA (x := 4 * q + 1 + 2) (by omega) (by omega) (by omega) dL_law_699 ?_
      refine fd_subVi C hE (la_subM cI cB cJ L ad) (fun k i h => (la_m _ _ _ _ _).symm) (la_backM N P Q2 o2) hKm [.int (fd_I (xs (4 * q + 1 + 1)).toInt), .int (fd_I (xs (4 * q + 1 + 2)).toInt)] (k := 0) (i := 0) h5 (cwV 2 C.1.2.2.2.2 (gM_seat fw3_165) rfl h4.1 h4.2.1 ⟨rfl, by decide, by decide, by decide +kernel⟩ ⟨by show rm.frames + 1 ≤ 12; omega, by show 8 + (3 + 11) + rm.locals ≤ 436; omega⟩) (mo_m (by decide)) rfl rfl rfl (Nat.le_of_ble_eq_true rfl) dL_law_700 ⟨by show 1000 + q + mc + 0 ≤ 609823; omega, by show 10000 + 6 * q + ms + 0 ≤ 7266601; omega⟩ ?_
      refine fd_istore C dL_law_703 (by decide) ?_
      refine fd_aload_n C dL_law_705 rfl ?_
      refine fd_subVi C hE (la_subM cI cB cJ L ad) (fun k i h => (la_m _ _ _ _ _).symm) (la_backM N Q2 Q2 o2) hKm [] (k := 0) (i := 0) (mM_thrown l D cI (la_ad ad) Q2) (cwV 0 C.1.2.2.2.2 (gM_thrown fw3_89) rfl rfl rfl ⟨rfl, by decide, by decide, by decide +kernel⟩ ⟨by decide, by decide⟩) (mo_m (by decide)) rfl rfl rfl (Nat.le_of_ble_eq_true rfl) dL_law_706 ⟨by show 1000 + q + mc + 0 ≤ 609823; omega, by show 10000 + 6 * q + ms + 0 ≤ 7266601; omega⟩ ?_
      refine fd_iload C dL_law_709 rfl ?_
      refine fd_icmp_eq C (tgt := 716) dL_law_711 rfl ⟨by omega, by omega⟩ ⟨by omega, by omega⟩ (fun hk => ?_) (fun hk => absurd h7 hk)
      refine fd_iload C dL_law_716 rfl ?_
      refine fd_if_ne C (tgt := 733) dL_law_718 rfl ⟨by omega, by omega⟩ (fun hk0 => ?_) (fun hk0 => ?_)
      · refine fd_goto C (tgt := 1021) dL_law_733 rfl ?_
        exact back N Q2 o2 _ _ mc ms h2.1 h2.2 h9 h10
      have hz : o2 = z := h8 (by omega)
      subst hz
      refine fd_aload_n C dL_law_721 rfl ?_
      refine fd_iconst C dL_law_722 ?_
      refine la_lald C la_10 (la_tJ cI cB cJ) dL_law_723 ?_
      refine fd_iload C dL_law_724 rfl ?_
      refine fd_i2l C dL_law_726 ?_
      refine la_lcmp C dL_law_727 ?_
      refine fd_if_eq C (tgt := 733) dL_law_728 rfl ⟨by omega, by omega⟩ (fun _ => ?_) (fun hk1 => absurd rfl hk1)
      refine fd_goto C (tgt := 1021) dL_law_733 rfl ?_
      exact back N Q2 o2 _ _ mc ms h2.1 h2.2 h9 h10
    · refine fd_tswI C (tgt := 736) dL_law_49 hw (by omega) (by omega) (by rw [hsw]; rfl) rfl ?_
      obtain ⟨k, z, o2, N, Q2, mc, ms, rm, h1, h2, h3, h4, h5, h7, h8, h9, h10⟩ := jc_together (l := l) (D := D) (cI := cI) (cB := cB) (cJ := cJ) (ad := ad) (o := o) (a := (xs (4 * q + 1 + 1)).toInt) h hL h6 (by omega) hl (fd_in_self _)
      unfold jc_R at h4
      refine fd_aload_n C dL_law_736 rfl ?_
      refine fd_aload_n C dL_law_737 rfl ?_
      refine fd_iload C dL_law_738 rfl ?_
      refine fd_iconst C dL_law_740 ?_
      refine fd_iadd C dL_law_741 ?_
      refine la_sld C hX hbl hbA (x := 4 * q + 1 + 1) (by omega) (by omega) (by omega) dL_law_742 ?_
      refine fd_aload_n C dL_law_743 rfl ?_
      refine la_callS C hE hN3 (la_subO cI cB cJ L ad) (fun k i h => rfl) (la_backO M N P P o o2) C.2.1 [.ref (ad 0 0), .int (fd_I (xs (4 * q + 1 + 1)).toInt), .ref (ad 10 0)] h1 (vx_cwSW 3 C.1.2.2.2.2 (fd_cwS fw2_188 fw2_189 fw1_0 iL_together) rfl rfl rfl ⟨by decide, by decide, by decide +kernel⟩ ⟨by show 11 + 1 ≤ 12; decide, by show 8 + (4 + 11) + 400 ≤ 436; decide⟩) rfl (Nat.le_of_ble_eq_true rfl) dL_law_744 ⟨by show 1000 + q + mc ≤ 609823; omega, by show 10000 + 6 * q + ms ≤ 7266601; omega⟩ ?_
      refine fd_istore C dL_law_747 (by decide) ?_
      refine fd_aload_n C dL_law_749 rfl ?_
      refine fd_aload_n C dL_law_750 rfl ?_
      refine fd_iload C dL_law_751 rfl ?_
      refine fd_iconst C dL_law_753 ?_
      refine fd_iadd C dL_law_754 ?_
      refine la_sld C hX hbl hbA (x := 4 * q + 1 + 1) (by omega) (by omega) (by omega) dL_law_755 ?_
      refine fd_subVi C hE (la_subM cI cB cJ L ad) (fun k i h => (la_m _ _ _ _ _).symm) (la_backM N P Q2 o2) hKm [.int (fd_I (xs (4 * q + 1 + 1)).toInt)] (k := 0) (i := 0) h5 (cwV 1 C.1.2.2.2.2 (gM_together fw3_177) rfl h4.1 h4.2.1 ⟨rfl, by decide, by decide, by decide +kernel⟩ ⟨by show rm.frames + 1 ≤ 12; omega, by show 8 + (6 + 11) + rm.locals ≤ 436; omega⟩) (mo_m (by decide)) rfl rfl rfl (Nat.le_of_ble_eq_true rfl) dL_law_756 ⟨by show 1000 + q + mc + 0 ≤ 609823; omega, by show 10000 + 6 * q + ms + 0 ≤ 7266601; omega⟩ ?_
      refine fd_istore C dL_law_759 (by decide) ?_
      refine fd_aload_n C dL_law_761 rfl ?_
      refine fd_subVi C hE (la_subM cI cB cJ L ad) (fun k i h => (la_m _ _ _ _ _).symm) (la_backM N Q2 Q2 o2) hKm [] (k := 0) (i := 0) (mM_thrown l D cI (la_ad ad) Q2) (cwV 0 C.1.2.2.2.2 (gM_thrown fw3_89) rfl rfl rfl ⟨rfl, by decide, by decide, by decide +kernel⟩ ⟨by decide, by decide⟩) (mo_m (by decide)) rfl rfl rfl (Nat.le_of_ble_eq_true rfl) dL_law_762 ⟨by show 1000 + q + mc + 0 ≤ 609823; omega, by show 10000 + 6 * q + ms + 0 ≤ 7266601; omega⟩ ?_
      refine fd_iload C dL_law_765 rfl ?_
      refine fd_icmp_eq C (tgt := 772) dL_law_767 rfl ⟨by omega, by omega⟩ ⟨by omega, by omega⟩ (fun hk => ?_) (fun hk => absurd h7 hk)
      refine fd_iload C dL_law_772 rfl ?_
      refine fd_if_ne C (tgt := 789) dL_law_774 rfl ⟨by omega, by omega⟩ (fun hk0 => ?_) (fun hk0 => ?_)
      · refine fd_goto C (tgt := 1021) dL_law_789 rfl ?_
        exact back N Q2 o2 _ _ mc ms h2.1 h2.2 h9 h10
      have hz : o2 = z := h8 (by omega)
      subst hz
      refine fd_aload_n C dL_law_777 rfl ?_
      refine fd_iconst C dL_law_778 ?_
      refine la_lald C la_10 (la_tJ cI cB cJ) dL_law_779 ?_
      refine fd_iload C dL_law_780 rfl ?_
      refine fd_i2l C dL_law_782 ?_
      refine la_lcmp C dL_law_783 ?_
      refine fd_if_eq C (tgt := 789) dL_law_784 rfl ⟨by omega, by omega⟩ (fun _ => ?_) (fun hk1 => absurd rfl hk1)
      refine fd_goto C (tgt := 1021) dL_law_789 rfl ?_
      exact back N Q2 o2 _ _ mc ms h2.1 h2.2 h9 h10
    · refine fd_tswI C (tgt := 792) dL_law_49 hw (by omega) (by omega) (by rw [hsw]; rfl) rfl ?_
      obtain ⟨k, N, Q2, mc, ms, rm, h1, h2, h3, h4, h5, h7, h9, h10⟩ := jc_tick (l := l) (D := D) (cI := cI) (cB := cB) (cJ := cJ) (ad := ad) (o := o) (a := (xs (4 * q + 1 + 1)).toInt) h hL (by omega) hl (fd_in_self _)
      unfold jc_R at h4
      refine fd_aload_n C dL_law_792 rfl ?_
      refine fd_aload_n C dL_law_793 rfl ?_
      refine fd_iload C dL_law_794 rfl ?_
      refine fd_iconst C dL_law_796 ?_
      refine fd_iadd C dL_law_797 ?_
      refine la_sld C hX hbl hbA (x := 4 * q + 1 + 1) (by omega) (by omega) (by omega) dL_law_798 ?_
      refine la_callS C hE hN3 (la_subO cI cB cJ L ad) (fun k i h => rfl) (la_backO M N P P o o) C.2.1 [.ref (ad 0 0), .int (fd_I (xs (4 * q + 1 + 1)).toInt)] h1 (vx_cwSW 2 C.1.2.2.2.2 (fd_cwS fw2_215 fw2_216 fw1_0 iL_tick) rfl rfl rfl ⟨by decide, by decide, by decide +kernel⟩ ⟨by show 11 + 1 ≤ 12; decide, by show 8 + (3 + 11) + 400 ≤ 436; decide⟩) rfl (Nat.le_of_ble_eq_true rfl) dL_law_799 ⟨by show 1000 + q + mc ≤ 609823; omega, by show 10000 + 6 * q + ms ≤ 7266601; omega⟩ ?_
      refine fd_istore C dL_law_802 (by decide) ?_
      refine fd_aload_n C dL_law_804 rfl ?_
      refine fd_aload_n C dL_law_805 rfl ?_
      refine fd_iload C dL_law_806 rfl ?_
      refine fd_iconst C dL_law_808 ?_
      refine fd_iadd C dL_law_809 ?_
      refine la_sld C hX hbl hbA (x := 4 * q + 1 + 1) (by omega) (by omega) (by omega) dL_law_810 ?_
      refine fd_subVv C hE (la_subM cI cB cJ L ad) (fun k i h => (la_m _ _ _ _ _).symm) (la_backM N P Q2 o) hKm [.int (fd_I (xs (4 * q + 1 + 1)).toInt)] (k := 0) (i := 0) h5 (cwV 1 C.1.2.2.2.2 (gM_tick fw3_197) rfl h4.1 h4.2.1 ⟨rfl, by decide, by decide, by decide +kernel⟩ ⟨by show rm.frames + 1 ≤ 12; omega, by show 8 + (5 + 11) + rm.locals ≤ 436; omega⟩) (mo_m (by decide)) rfl rfl rfl (Nat.le_of_ble_eq_true rfl) dL_law_811 ⟨by show 1000 + q + mc + 0 ≤ 609823; omega, by show 10000 + 6 * q + ms + 0 ≤ 7266601; omega⟩ ?_
      refine fd_aload_n C dL_law_814 rfl ?_
      refine fd_subVi C hE (la_subM cI cB cJ L ad) (fun k i h => (la_m _ _ _ _ _).symm) (la_backM N Q2 Q2 o) hKm [] (k := 0) (i := 0) (mM_thrown l D cI (la_ad ad) Q2) (cwV 0 C.1.2.2.2.2 (gM_thrown fw3_89) rfl rfl rfl ⟨rfl, by decide, by decide, by decide +kernel⟩ ⟨by decide, by decide⟩) (mo_m (by decide)) rfl rfl rfl (Nat.le_of_ble_eq_true rfl) dL_law_815 ⟨by show 1000 + q + mc + 0 ≤ 609823; omega, by show 10000 + 6 * q + ms + 0 ≤ 7266601; omega⟩ ?_
      refine fd_iload C dL_law_818 rfl ?_
      refine fd_icmp_eq C (tgt := 825) dL_law_820 rfl ⟨by omega, by omega⟩ ⟨by omega, by omega⟩ (fun hk => ?_) (fun hk => absurd h7 hk)
      refine fd_goto C (tgt := 1021) dL_law_825 rfl ?_
      exact back N Q2 o _ _ mc ms h2.1 h2.2 h9 h10
    · refine fd_tswI C (tgt := 828) dL_law_49 hw (by omega) (by omega) (by rw [hsw]; rfl) rfl ?_
      obtain ⟨k, z, o2, N, Q2, mc, ms, rm, h1, h2, h3, h4, h5, h7, h8, h9, h10⟩ := jc_close (l := l) (D := D) (cI := cI) (cB := cB) (cJ := cJ) (ad := ad) (o := o)  h hL (by omega) hl 
      unfold jc_R at h4
      refine fd_aload_n C dL_law_828 rfl ?_
      refine fd_aload_n C dL_law_829 rfl ?_
      refine la_callS C hE hN3 (la_subO cI cB cJ L ad) (fun k i h => rfl) (la_backO M N P P o o2) C.2.1 [.ref (ad 0 0), .ref (ad 10 0)] h1 (vx_cwSW 2 C.1.2.2.2.2 (fd_cwS fw2_227 fw2_228 fw1_0 iL_close) rfl rfl rfl ⟨by decide, by decide, by decide +kernel⟩ ⟨by show 11 + 1 ≤ 12; decide, by show 8 + (3 + 11) + 400 ≤ 436; decide⟩) rfl (Nat.le_of_ble_eq_true rfl) dL_law_830 ⟨by show 1000 + q + mc ≤ 609823; omega, by show 10000 + 6 * q + ms ≤ 7266601; omega⟩ ?_
      refine fd_istore C dL_law_833 (by decide) ?_
      refine fd_aload_n C dL_law_835 rfl ?_
      refine fd_subVi C hE (la_subM cI cB cJ L ad) (fun k i h => (la_m _ _ _ _ _).symm) (la_backM N P Q2 o2) hKm [] (k := 0) (i := 0) h5 (cwV 0 C.1.2.2.2.2 (gM_close fw3_201) rfl h4.1 h4.2.1 ⟨rfl, by decide, by decide, by decide +kernel⟩ ⟨by show rm.frames + 1 ≤ 12; omega, by show 8 + (4 + 11) + rm.locals ≤ 436; omega⟩) (mo_m (by decide)) rfl rfl rfl (Nat.le_of_ble_eq_true rfl) dL_law_836 ⟨by show 1000 + q + mc + 0 ≤ 609823; omega, by show 10000 + 6 * q + ms + 0 ≤ 7266601; omega⟩ ?_
      refine fd_istore C dL_law_839 (by decide) ?_
      refine fd_aload_n C dL_law_841 rfl ?_
      refine fd_subVi C hE (la_subM cI cB cJ L ad) (fun k i h => (la_m _ _ _ _ _).symm) (la_backM N Q2 Q2 o2) hKm [] (k := 0) (i := 0) (mM_thrown l D cI (la_ad ad) Q2) (cwV 0 C.1.2.2.2.2 (gM_thrown fw3_89) rfl rfl rfl ⟨rfl, by decide, by decide, by decide +kernel⟩ ⟨by decide, by decide⟩) (mo_m (by decide)) rfl rfl rfl (Nat.le_of_ble_eq_true rfl) dL_law_842 ⟨by show 1000 + q + mc + 0 ≤ 609823; omega, by show 10000 + 6 * q + ms + 0 ≤ 7266601; omega⟩ ?_
      refine fd_iload C dL_law_845 rfl ?_
      refine fd_icmp_eq C (tgt := 852) dL_law_847 rfl ⟨by omega, by omega⟩ ⟨by omega, by omega⟩ (fun hk => ?_) (fun hk => absurd h7 hk)
      refine fd_iload C dL_law_852 rfl ?_
      refine fd_if_ne C (tgt := 869) dL_law_854 rfl ⟨by omega, by omega⟩ (fun hk0 => ?_) (fun hk0 => ?_)
      · refine fd_goto C (tgt := 1021) dL_law_869 rfl ?_
        exact back N Q2 o2 _ _ mc ms h2.1 h2.2 h9 h10
      have hz : o2 = z := h8 (by omega)
      subst hz
      refine fd_aload_n C dL_law_857 rfl ?_
      refine fd_iconst C dL_law_858 ?_
      refine la_lald C la_10 (la_tJ cI cB cJ) dL_law_859 ?_
      refine fd_iload C dL_law_860 rfl ?_
      refine fd_i2l C dL_law_862 ?_
      refine la_lcmp C dL_law_863 ?_
      refine fd_if_eq C (tgt := 869) dL_law_864 rfl ⟨by omega, by omega⟩ (fun _ => ?_) (fun hk1 => absurd rfl hk1)
      refine fd_goto C (tgt := 1021) dL_law_869 rfl ?_
      exact back N Q2 o2 _ _ mc ms h2.1 h2.2 h9 h10
    · refine fd_tswI C (tgt := 872) dL_law_49 hw (by omega) (by omega) (by rw [hsw]; rfl) rfl ?_
      obtain ⟨k, z, o2, N, Q2, mc, ms, rm, h1, h2, h3, h4, h5, h7, h8, h9, h10⟩ := jc_of (l := l) (D := D) (cI := cI) (cB := cB) (cJ := cJ) (ad := ad) (o := o) (a := (xs (4 * q + 1 + 1)).toInt) (b := (xs (4 * q + 1 + 2)).toInt) h hL (by omega) hl (fd_in_self _) (fd_in_self _)
      unfold jc_R at h4
      refine fd_aload_n C dL_law_872 rfl ?_
      refine fd_aload_n C dL_law_873 rfl ?_
      refine fd_iload C dL_law_874 rfl ?_
      refine fd_iconst C dL_law_876 ?_
      refine fd_iadd C dL_law_877 ?_
      refine la_sld C hX hbl hbA (x := 4 * q + 1 + 1) (by omega) (by omega) (by omega) dL_law_878 ?_
      refine fd_aload_n C dL_law_879 rfl ?_
      refine fd_iload C dL_law_880 rfl ?_
      refine fd_iconst C dL_law_882 ?_
      refine fd_iadd C dL_law_883 ?_
      refine la_sld C hX hbl hbA (x := 4 * q + 1 + 2) (by omega) (by omega) (by omega) dL_law_884 ?_
      refine fd_aload_n C dL_law_885 rfl ?_
      refine la_callS C hE hN3 (la_subO cI cB cJ L ad) (fun k i h => rfl) (la_backO M N P P o o2) C.2.1 [.ref (ad 0 0), .int (fd_I (xs (4 * q + 1 + 1)).toInt), .int (fd_I (xs (4 * q + 1 + 2)).toInt), .ref (ad 10 0)] h1 (vx_cwSW 4 C.1.2.2.2.2 (fd_cwS fw3_10 fw3_11 fw1_0 iL_of) rfl rfl rfl ⟨by decide, by decide, by decide +kernel⟩ ⟨by show 11 + 1 ≤ 12; decide, by show 8 + (5 + 11) + 400 ≤ 436; decide⟩) rfl (Nat.le_of_ble_eq_true rfl) dL_law_886 ⟨by show 1000 + q + mc ≤ 609823; omega, by show 10000 + 6 * q + ms ≤ 7266601; omega⟩ ?_
      refine fd_istore C dL_law_889 (by decide) ?_
      refine fd_aload_n C dL_law_891 rfl ?_
      refine fd_aload_n C dL_law_892 rfl ?_
      refine fd_iload C dL_law_893 rfl ?_
      refine fd_iconst C dL_law_895 ?_
      refine fd_iadd C dL_law_896 ?_
      refine la_sld C hX hbl hbA (x := 4 * q + 1 + 1) (by omega) (by omega) (by omega) dL_law_897 ?_
      refine fd_aload_n C dL_law_898 rfl ?_
      refine fd_iload C dL_law_899 rfl ?_
      refine fd_iconst C dL_law_901 ?_
      refine fd_iadd C dL_law_902 ?_
      refine la_sld C hX hbl hbA (x := 4 * q + 1 + 2) (by omega) (by omega) (by omega) dL_law_903 ?_
      refine fd_subVi C hE (la_subM cI cB cJ L ad) (fun k i h => (la_m _ _ _ _ _).symm) (la_backM N P Q2 o2) hKm [.int (fd_I (xs (4 * q + 1 + 1)).toInt), .int (fd_I (xs (4 * q + 1 + 2)).toInt)] (k := 0) (i := 0) h5 (cwV 2 C.1.2.2.2.2 (gM_of fw3_209) rfl h4.1 h4.2.1 ⟨rfl, by decide, by decide, by decide +kernel⟩ ⟨by show rm.frames + 1 ≤ 12; omega, by show 8 + (3 + 11) + rm.locals ≤ 436; omega⟩) (mo_m (by decide)) rfl rfl rfl (Nat.le_of_ble_eq_true rfl) dL_law_904 ⟨by show 1000 + q + mc + 0 ≤ 609823; omega, by show 10000 + 6 * q + ms + 0 ≤ 7266601; omega⟩ ?_
      refine fd_istore C dL_law_907 (by decide) ?_
      refine fd_aload_n C dL_law_909 rfl ?_
      refine fd_subVi C hE (la_subM cI cB cJ L ad) (fun k i h => (la_m _ _ _ _ _).symm) (la_backM N Q2 Q2 o2) hKm [] (k := 0) (i := 0) (mM_thrown l D cI (la_ad ad) Q2) (cwV 0 C.1.2.2.2.2 (gM_thrown fw3_89) rfl rfl rfl ⟨rfl, by decide, by decide, by decide +kernel⟩ ⟨by decide, by decide⟩) (mo_m (by decide)) rfl rfl rfl (Nat.le_of_ble_eq_true rfl) dL_law_910 ⟨by show 1000 + q + mc + 0 ≤ 609823; omega, by show 10000 + 6 * q + ms + 0 ≤ 7266601; omega⟩ ?_
      refine fd_iload C dL_law_913 rfl ?_
      refine fd_icmp_eq C (tgt := 920) dL_law_915 rfl ⟨by omega, by omega⟩ ⟨by omega, by omega⟩ (fun hk => ?_) (fun hk => absurd h7 hk)
      refine fd_iload C dL_law_920 rfl ?_
      refine fd_if_ne C (tgt := 937) dL_law_922 rfl ⟨by omega, by omega⟩ (fun hk0 => ?_) (fun hk0 => ?_)
      · refine fd_goto C (tgt := 1021) dL_law_937 rfl ?_
        exact back N Q2 o2 _ _ mc ms h2.1 h2.2 h9 h10
      have hz : o2 = z := h8 (by omega)
      subst hz
      refine fd_aload_n C dL_law_925 rfl ?_
      refine fd_iconst C dL_law_926 ?_
      refine la_lald C la_10 (la_tJ cI cB cJ) dL_law_927 ?_
      refine fd_iload C dL_law_928 rfl ?_
      refine fd_i2l C dL_law_930 ?_
      refine la_lcmp C dL_law_931 ?_
      refine fd_if_eq C (tgt := 937) dL_law_932 rfl ⟨by omega, by omega⟩ (fun _ => ?_) (fun hk1 => absurd rfl hk1)
      refine fd_goto C (tgt := 1021) dL_law_937 rfl ?_
      exact back N Q2 o2 _ _ mc ms h2.1 h2.2 h9 h10
    · refine fd_tswI C (tgt := 940) dL_law_49 hw (by omega) (by omega) (by rw [hsw]; rfl) rfl ?_
      refine fd_aload_n C dL_law_940 rfl ?_
      refine fd_aload_n C dL_law_941 rfl ?_
      refine fd_iload C dL_law_942 rfl ?_
      refine fd_iconst C dL_law_944 ?_
      refine fd_iadd C dL_law_945 ?_
      refine la_sld C hX hbl hbA (x := 4 * q + 1 + 1) (by omega) (by omega) (by omega) dL_law_946 ?_
      refine fd_subVi C hE (la_subDa cI cB cJ L ad) (fun k i h => (la_d M P o (ds_wl_lt h) i).symm) (la_backDa M M P o) hKd [.int (fd_I (xs (4 * q + 1 + 1)).toInt)] (k := 0) (i := 0) (mD_at l D cI cB L ad M (xs (4 * q + 1 + 1)).toInt (fd_in_self _) hL) (cwV 1 C.1.2.2.2.2 (gD_at fw1_135) rfl rfl rfl ⟨rfl, by decide, by decide, by decide +kernel⟩ ⟨by decide, by decide⟩) (ds_m (by decide)) rfl rfl rfl (Nat.le_of_ble_eq_true rfl) dL_law_947 ⟨by show 1000 + q + 0 ≤ 609823; omega, by show 10000 + 6 * q + 0 ≤ 7266601; omega⟩ ?_
      refine fd_aload_n C dL_law_950 rfl ?_
      refine fd_aload_n C dL_law_951 rfl ?_
      refine fd_iload C dL_law_952 rfl ?_
      refine fd_iconst C dL_law_954 ?_
      refine fd_iadd C dL_law_955 ?_
      refine la_sld C hX hbl hbA (x := 4 * q + 1 + 1) (by omega) (by omega) (by omega) dL_law_956 ?_
      refine fd_subVi C hE (la_subM cI cB cJ L ad) (fun k i h => (la_m _ _ _ _ _).symm) (la_backM M P (fd_u3 P 0 0 0 0) o) hKm [.int (fd_I (xs (4 * q + 1 + 1)).toInt)] (k := 0) (i := 0) (mM_at l D cI (la_ad ad) P (xs (4 * q + 1 + 1)).toInt (fd_in_self _) (h.mok hL (by omega)).cnt) (cwV 1 C.1.2.2.2.2 (gM_at fw3_213) rfl rfl rfl ⟨rfl, by decide, by decide, by decide +kernel⟩ ⟨by decide, by decide⟩) (mo_m (by decide)) rfl rfl rfl (Nat.le_of_ble_eq_true rfl) dL_law_957 ⟨by show 1000 + q + 0 ≤ 609823; omega, by show 10000 + 6 * q + 0 ≤ 7266601; omega⟩ ?_
      rw [jc_at h]
      have e9 : fd_in (if 0 ≤ (xs (4 * q + 1 + 1)).toInt ∧ (xs (4 * q + 1 + 1)).toInt < (L : Int) then M 7 0 ((xs (4 * q + 1 + 1)).toInt).toNat else -1) := by
        unfold fd_in
        split
        · next hc => have := h.2.2.2.2.1 ((xs (4 * q + 1 + 1)).toInt).toNat (by omega); omega
        · omega
      refine fd_icmp_eq C (tgt := 1021) dL_law_960 rfl e9 e9 (fun _ => ?_) (fun hf => absurd rfl hf)
      exact back M (fd_u3 P 0 0 0 0) o none none 0 0 (by omega) (by omega) (h.thr 0) (by omega)
    · refine fd_tswI C (tgt := 965) dL_law_49 hw (by omega) (by omega) (by rw [hsw]; rfl) rfl ?_
      obtain ⟨k, z, o2, N, Q2, mc, ms, rm, h1, h2, h3, h4, h5, h7, h8, h9, h10⟩ := jc_count (l := l) (D := D) (cI := cI) (cB := cB) (cJ := cJ) (ad := ad) (o := o) (a := (xs (4 * q + 1 + 1)).toInt) h hL (by omega) hl (fd_in_self _)
      unfold jc_R at h4
      refine fd_aload_n C dL_law_965 rfl ?_
      refine fd_aload_n C dL_law_966 rfl ?_
      refine fd_iload C dL_law_967 rfl ?_
      refine fd_iconst C dL_law_969 ?_
      refine fd_iadd C dL_law_970 ?_
      refine la_sld C hX hbl hbA (x := 4 * q + 1 + 1) (by omega) (by omega) (by omega) dL_law_971 ?_
      refine fd_aload_n C dL_law_972 rfl ?_
      refine la_callS C hE hN3 (la_subO cI cB cJ L ad) (fun k i h => rfl) (la_backO M N P P o o2) C.2.1 [.ref (ad 0 0), .int (fd_I (xs (4 * q + 1 + 1)).toInt), .ref (ad 10 0)] h1 (vx_cwSW 3 C.1.2.2.2.2 (fd_cwS fw3_18 fw3_19 fw1_0 iL_count) rfl rfl rfl ⟨by decide, by decide, by decide +kernel⟩ ⟨by show 11 + 1 ≤ 12; decide, by show 8 + (4 + 11) + 400 ≤ 436; decide⟩) rfl (Nat.le_of_ble_eq_true rfl) dL_law_973 ⟨by show 1000 + q + mc ≤ 609823; omega, by show 10000 + 6 * q + ms ≤ 7266601; omega⟩ ?_
      refine fd_istore C dL_law_976 (by decide) ?_
      refine fd_aload_n C dL_law_978 rfl ?_
      refine fd_aload_n C dL_law_979 rfl ?_
      refine fd_iload C dL_law_980 rfl ?_
      refine fd_iconst C dL_law_982 ?_
      refine fd_iadd C dL_law_983 ?_
      refine la_sld C hX hbl hbA (x := 4 * q + 1 + 1) (by omega) (by omega) (by omega) dL_law_984 ?_
      refine fd_subVi C hE (la_subM cI cB cJ L ad) (fun k i h => (la_m _ _ _ _ _).symm) (la_backM N P Q2 o2) hKm [.int (fd_I (xs (4 * q + 1 + 1)).toInt)] (k := 0) (i := 0) h5 (cwV 1 C.1.2.2.2.2 (gM_count fw3_217) rfl h4.1 h4.2.1 ⟨rfl, by decide, by decide, by decide +kernel⟩ ⟨by show rm.frames + 1 ≤ 12; omega, by show 8 + (4 + 11) + rm.locals ≤ 436; omega⟩) (mo_m (by decide)) rfl rfl rfl (Nat.le_of_ble_eq_true rfl) dL_law_985 ⟨by show 1000 + q + mc + 0 ≤ 609823; omega, by show 10000 + 6 * q + ms + 0 ≤ 7266601; omega⟩ ?_
      refine fd_istore C dL_law_988 (by decide) ?_
      refine fd_aload_n C dL_law_990 rfl ?_
      refine fd_subVi C hE (la_subM cI cB cJ L ad) (fun k i h => (la_m _ _ _ _ _).symm) (la_backM N Q2 Q2 o2) hKm [] (k := 0) (i := 0) (mM_thrown l D cI (la_ad ad) Q2) (cwV 0 C.1.2.2.2.2 (gM_thrown fw3_89) rfl rfl rfl ⟨rfl, by decide, by decide, by decide +kernel⟩ ⟨by decide, by decide⟩) (mo_m (by decide)) rfl rfl rfl (Nat.le_of_ble_eq_true rfl) dL_law_991 ⟨by show 1000 + q + mc + 0 ≤ 609823; omega, by show 10000 + 6 * q + ms + 0 ≤ 7266601; omega⟩ ?_
      refine fd_iload C dL_law_994 rfl ?_
      refine fd_icmp_eq C (tgt := 1001) dL_law_996 rfl ⟨by omega, by omega⟩ ⟨by omega, by omega⟩ (fun hk => ?_) (fun hk => absurd h7 hk)
      refine fd_iload C dL_law_1001 rfl ?_
      refine fd_if_ne C (tgt := 1018) dL_law_1003 rfl ⟨by omega, by omega⟩ (fun hk0 => ?_) (fun hk0 => ?_)
      · refine fd_goto C (tgt := 1021) dL_law_1018 rfl ?_
        exact back N Q2 o2 _ _ mc ms h2.1 h2.2 h9 h10
      have hz : o2 = z := h8 (by omega)
      subst hz
      refine fd_aload_n C dL_law_1006 rfl ?_
      refine fd_iconst C dL_law_1007 ?_
      refine la_lald C la_10 (la_tJ cI cB cJ) dL_law_1008 ?_
      refine fd_iload C dL_law_1009 rfl ?_
      refine fd_i2l C dL_law_1011 ?_
      refine la_lcmp C dL_law_1012 ?_
      refine fd_if_eq C (tgt := 1018) dL_law_1013 rfl ⟨by omega, by omega⟩ (fun _ => ?_) (fun hk1 => absurd rfl hk1)
      refine fd_goto C (tgt := 1021) dL_law_1018 rfl ?_
      exact back N Q2 o2 _ _ mc ms h2.1 h2.2 h9 h10
