section LAWR
variable {G : Gx} {p : Program} {l : Launch} {e : Env} {R : Room} {s : State} {m : MethodId} {args : Array Value} {below : List Frame} {meth : Method} {c : Code} {cells slots : Nat} {Q : State → Prop} {nL : Nat} {rt : Option FieldType} {own : String} {cc : ByteArray}
variable {pc : Nat} {ls : List (Nat × VV)} {st : List VV} {σ : St}
theorem r_scl (C : Cx G p s m args meth c rt nL own cc) {N : Nat} (hN : G.2.2.2.1 = N) (hd : decode cc pc = .ok (.arraylength, 1)) (k : Rt G p l e R s m args below meth c cells slots Q nL (pc + 1) ls (vI (Int32.ofNat N) :: st) σ) : Rt G p l e R s m args below meth c cells slots Q nL pc ls (vR (110, 0, 0) :: st) σ := by
  intro hl hs H locs la hP hS hL
  subst hN
  exact va_tlen C.1 C.2.1 (C.2.2.2.2.2.2.2.1.1 110 (by decide)) hS rfl hd (k hl (ok_c (v := vI _) trivial (ok_t hs)) H locs la hP hS hL)
theorem r_scr (C : Cx G p s m args meth c rt nL own cc) {N : Nat} {xs : Nat → Int32} {i : Int32} (hN : G.2.2.2.1 = N) (hxs : G.2.2.2.2.1 = xs) (j : Nat) (hd : decode cc pc = .ok (.iaload, 1)) (hi : inb i N = true) (hj : i.toNatClampNeg = j) (k : Rt G p l e R s m args below meth c cells slots Q nL (pc + 1) ls (vI (xs j) :: st) σ) : Rt G p l e R s m args below meth c cells slots Q nL pc ls (vI i :: vR (110, 0, 0) :: st) σ := by
  subst hN
  subst hxs
  exact r_roload C j hd (by decide) hi hj rfl k
theorem r_law1 {b : Nat} (C : Cx G p s m #[Value.ref b] meth c ret 4 R_law code) (hG : ∀ d ∈ ids, s.heap.size ≤ G.1 d) (hcl : cells ≤ 600000) (hsl : slots ≤ 7302250) (hd : decode code pc = .ok (.ireturn, 1)) : Rt G p l e room_1 s m #[Value.ref b] below meth c cells slots (lw_Z below #[Value.ref b] s) 4 pc ls [vI 1] σ := by
  intro hl hs H locs la hP hS hL
  refine va_forget (fun q hq => ?_) ?_
  · obtain ⟨d, hd1, hd2⟩ := hS.2.2 q hq
    rw [hd2]
    exact hG d hd1
  · exact W.widen hcl hsl (lw_ret C.1 C.2.1 C.2.2.2.2.2.2.2.2.2 C.2.2.2.2.2.2.2.2.1 hd)
end LAWR
/-- the law, from its loop on, as a picture: N ints xs -/
def L_law (N : Nat) (xs : Nat → Int32) : Nat → Int32 → St → Option (Int32 × St)
  | 0, _, _ => none
  | n + 1, v3, τ =>
  (if ((Int32.ofNat N) - (6 : Int32)) < v3 then some ((1 : Int32), τ) else ck (inb v3 N) ((if ((xs (v3.toNatClampNeg)) &&& (63 : Int32)) = (0 : Int32) then ck (inb (v3 + (1 : Int32)) N) (ck (inb (v3 + (2 : Int32)) N) (bd (F_X10_feed ((((xs ((v3 + (1 : Int32)).toNatClampNeg)).toInt64) <<< ((32 : Int32).toInt64 &&& 63)) ||| (((xs ((v3 + (2 : Int32)).toNatClampNeg)).toInt64) &&& (4294967295 : Int64))) τ) fun r6 σ5 => ck (inb (v3 + (1 : Int32)) N) (ck (inb (v3 + (2 : Int32)) N) (bd (F_X11_feed ((((xs ((v3 + (1 : Int32)).toNatClampNeg)).toInt64) <<< ((32 : Int32).toInt64 &&& 63)) ||| (((xs ((v3 + (2 : Int32)).toNatClampNeg)).toInt64) &&& (4294967295 : Int64))) σ5) fun r11 σ10 => (if r6 = r11 then nam (v3 + (6 : Int32)) fun x13 => L_law N xs n x13 σ10 else some ((0 : Int32), σ10)))))) else (if ((xs (v3.toNatClampNeg)) &&& (63 : Int32)) = (1 : Int32) then ck (inb (v3 + (1 : Int32)) N) (bd (F_X10_end (xs ((v3 + (1 : Int32)).toNatClampNeg)) τ) fun r18 σ17 => ck (inb (v3 + (1 : Int32)) N) (bd (F_X11_end (xs ((v3 + (1 : Int32)).toNatClampNeg)) σ17) fun r22 σ21 => (if r18 = r22 then nam (v3 + (6 : Int32)) fun x24 => L_law N xs n x24 σ21 else some ((0 : Int32), σ21)))) else (if ((xs (v3.toNatClampNeg)) &&& (63 : Int32)) = (2 : Int32) then bd (F_X10_text  τ) fun r28 σ27 => bd (F_X11_text  σ27) fun r31 σ30 => (if r28 = r31 then nam (v3 + (6 : Int32)) fun x33 => L_law N xs n x33 σ30 else some ((0 : Int32), σ30)) else (if ((xs (v3.toNatClampNeg)) &&& (63 : Int32)) = (3 : Int32) then bd (F_X10_fault  τ) fun r37 σ36 => bd (F_X11_fault  σ36) fun r40 σ39 => (if r37 = r40 then nam (v3 + (6 : Int32)) fun x42 => L_law N xs n x42 σ39 else some ((0 : Int32), σ39)) else (if ((xs (v3.toNatClampNeg)) &&& (63 : Int32)) = (4 : Int32) then ck (inb (v3 + (1 : Int32)) N) (bd (F_X10_rule (xs ((v3 + (1 : Int32)).toNatClampNeg)) τ) fun r47 σ46 => ck (inb (v3 + (1 : Int32)) N) (bd (F_X11_rule (xs ((v3 + (1 : Int32)).toNatClampNeg)) σ46) fun r51 σ50 => (if r47 = r51 then nam (v3 + (6 : Int32)) fun x53 => L_law N xs n x53 σ50 else some ((0 : Int32), σ50)))) else (if ((xs (v3.toNatClampNeg)) &&& (63 : Int32)) = (5 : Int32) then ck (inb (v3 + (1 : Int32)) N) (bd (F_X10_cell (xs ((v3 + (1 : Int32)).toNatClampNeg)) τ) fun r58 σ57 => ck (inb (v3 + (1 : Int32)) N) (bd (F_X11_cell (xs ((v3 + (1 : Int32)).toNatClampNeg)) σ57) fun r62 σ61 => (if r58 = r62 then nam (v3 + (6 : Int32)) fun x64 => L_law N xs n x64 σ61 else some ((0 : Int32), σ61)))) else (if ((xs (v3.toNatClampNeg)) &&& (63 : Int32)) = (6 : Int32) then ck (inb (v3 + (1 : Int32)) N) (ck (inb (v3 + (2 : Int32)) N) (bd (F_X10_put (xs ((v3 + (1 : Int32)).toNatClampNeg)) (xs ((v3 + (2 : Int32)).toNatClampNeg)) τ) fun r70 σ69 => ck (inb (v3 + (1 : Int32)) N) (ck (inb (v3 + (2 : Int32)) N) (bd (F_X11_put (xs ((v3 + (1 : Int32)).toNatClampNeg)) (xs ((v3 + (2 : Int32)).toNatClampNeg)) σ69) fun r75 σ74 => (if r70 = r75 then nam (v3 + (6 : Int32)) fun x77 => L_law N xs n x77 σ74 else some ((0 : Int32), σ74)))))) else (if ((xs (v3.toNatClampNeg)) &&& (63 : Int32)) = (7 : Int32) then ck (inb (v3 + (1 : Int32)) N) (bd (F_X10_heat (xs ((v3 + (1 : Int32)).toNatClampNeg)) τ) fun r82 σ81 => ck (inb (v3 + (1 : Int32)) N) (bd (F_X11_heat (xs ((v3 + (1 : Int32)).toNatClampNeg)) σ81) fun r86 σ85 => (if r82 = r86 then nam (v3 + (6 : Int32)) fun x88 => L_law N xs n x88 σ85 else some ((0 : Int32), σ85)))) else (if ((xs (v3.toNatClampNeg)) &&& (63 : Int32)) = (8 : Int32) then ck (inb (v3 + (1 : Int32)) N) (ck (inb (v3 + (2 : Int32)) N) (ck (inb (v3 + (3 : Int32)) N) (bd (F_X10_drop (xs ((v3 + (1 : Int32)).toNatClampNeg)) (xs ((v3 + (2 : Int32)).toNatClampNeg)) (xs ((v3 + (3 : Int32)).toNatClampNeg)) τ) fun r95 σ94 => ck (inb (v3 + (1 : Int32)) N) (ck (inb (v3 + (2 : Int32)) N) (ck (inb (v3 + (3 : Int32)) N) (bd (F_X11_drop (xs ((v3 + (1 : Int32)).toNatClampNeg)) (xs ((v3 + (2 : Int32)).toNatClampNeg)) (xs ((v3 + (3 : Int32)).toNatClampNeg)) σ94) fun r101 σ100 => (if r95 = r101 then nam (v3 + (6 : Int32)) fun x103 => L_law N xs n x103 σ100 else some ((0 : Int32), σ100)))))))) else (if ((xs (v3.toNatClampNeg)) &&& (63 : Int32)) = (9 : Int32) then ck (inb (v3 + (1 : Int32)) N) (bd (F_X10_go (xs ((v3 + (1 : Int32)).toNatClampNeg)) τ) fun r108 σ107 => ck (inb (v3 + (1 : Int32)) N) (bd (F_X11_go (xs ((v3 + (1 : Int32)).toNatClampNeg)) σ107) fun r112 σ111 => (if r108 = r112 then nam (v3 + (6 : Int32)) fun x114 => L_law N xs n x114 σ111 else some ((0 : Int32), σ111)))) else (if ((xs (v3.toNatClampNeg)) &&& (63 : Int32)) = (10 : Int32) then ck (inb (v3 + (1 : Int32)) N) (bd (F_X10_seed (xs ((v3 + (1 : Int32)).toNatClampNeg)) τ) fun r119 σ118 => ck (inb (v3 + (1 : Int32)) N) (bd (F_X11_seed (xs ((v3 + (1 : Int32)).toNatClampNeg)) σ118) fun r123 σ122 => (if r119 = r123 then nam (v3 + (6 : Int32)) fun x125 => L_law N xs n x125 σ122 else some ((0 : Int32), σ122)))) else (if ((xs (v3.toNatClampNeg)) &&& (63 : Int32)) = (11 : Int32) then ck (inb (v3 + (1 : Int32)) N) (ck (inb (v3 + (2 : Int32)) N) (bd (F_X10_of (xs ((v3 + (1 : Int32)).toNatClampNeg)) (xs ((v3 + (2 : Int32)).toNatClampNeg)) τ) fun r131 σ130 => ck (inb (v3 + (1 : Int32)) N) (ck (inb (v3 + (2 : Int32)) N) (bd (F_X11_of (xs ((v3 + (1 : Int32)).toNatClampNeg)) (xs ((v3 + (2 : Int32)).toNatClampNeg)) σ130) fun r136 σ135 => (if r131 = r136 then nam (v3 + (6 : Int32)) fun x138 => L_law N xs n x138 σ135 else some ((0 : Int32), σ135)))))) else (if ((xs (v3.toNatClampNeg)) &&& (63 : Int32)) = (12 : Int32) then ck (inb (v3 + (1 : Int32)) N) (bd (F_X10_at (xs ((v3 + (1 : Int32)).toNatClampNeg)) τ) fun r143 σ142 => ck (inb (v3 + (1 : Int32)) N) (bd (F_X11_at (xs ((v3 + (1 : Int32)).toNatClampNeg)) σ142) fun r147 σ146 => (if r143 = r147 then nam (v3 + (6 : Int32)) fun x149 => L_law N xs n x149 σ146 else some ((0 : Int32), σ146)))) else (if ((xs (v3.toNatClampNeg)) &&& (63 : Int32)) = (13 : Int32) then ck (inb (v3 + (1 : Int32)) N) (bd (F_X10_now (xs ((v3 + (1 : Int32)).toNatClampNeg)) τ) fun r154 σ153 => ck (inb (v3 + (1 : Int32)) N) (bd (F_X11_now (xs ((v3 + (1 : Int32)).toNatClampNeg)) σ153) fun r158 σ157 => (if r154 = r158 then nam (v3 + (6 : Int32)) fun x160 => L_law N xs n x160 σ157 else some ((0 : Int32), σ157)))) else (if ((xs (v3.toNatClampNeg)) &&& (63 : Int32)) = (14 : Int32) then ck (inb (v3 + (1 : Int32)) N) (bd (F_X10_points (xs ((v3 + (1 : Int32)).toNatClampNeg)) τ) fun r165 σ164 => ck (inb (v3 + (1 : Int32)) N) (bd (F_X11_points (xs ((v3 + (1 : Int32)).toNatClampNeg)) σ164) fun r169 σ168 => (if r165 = r169 then nam (v3 + (6 : Int32)) fun x171 => L_law N xs n x171 σ168 else some ((0 : Int32), σ168)))) else (if ((xs (v3.toNatClampNeg)) &&& (63 : Int32)) = (15 : Int32) then ck (inb (v3 + (1 : Int32)) N) (bd (F_X10_keep (xs ((v3 + (1 : Int32)).toNatClampNeg)) τ) fun r176 σ175 => ck (inb (v3 + (1 : Int32)) N) (bd (F_X11_keep (xs ((v3 + (1 : Int32)).toNatClampNeg)) σ175) fun r180 σ179 => (if r176 = r180 then nam (v3 + (6 : Int32)) fun x182 => L_law N xs n x182 σ179 else some ((0 : Int32), σ179)))) else (if ((xs (v3.toNatClampNeg)) &&& (63 : Int32)) = (16 : Int32) then ck (inb (v3 + (1 : Int32)) N) (bd (F_X10_back (xs ((v3 + (1 : Int32)).toNatClampNeg)) τ) fun r187 σ186 => ck (inb (v3 + (1 : Int32)) N) (bd (F_X11_back (xs ((v3 + (1 : Int32)).toNatClampNeg)) σ186) fun r191 σ190 => (if r187 = r191 then nam (v3 + (6 : Int32)) fun x193 => L_law N xs n x193 σ190 else some ((0 : Int32), σ190)))) else (if ((xs (v3.toNatClampNeg)) &&& (63 : Int32)) = (17 : Int32) then ck (inb (v3 + (1 : Int32)) N) (ck (inb (v3 + (2 : Int32)) N) (ck (inb (v3 + (3 : Int32)) N) (ck (inb (v3 + (4 : Int32)) N) (ck (inb (v3 + (5 : Int32)) N) (bd (F_X10_alone (xs ((v3 + (1 : Int32)).toNatClampNeg)) (xs ((v3 + (2 : Int32)).toNatClampNeg)) (xs ((v3 + (3 : Int32)).toNatClampNeg)) (xs ((v3 + (4 : Int32)).toNatClampNeg)) (xs ((v3 + (5 : Int32)).toNatClampNeg)) τ) fun r202 σ201 => ck (inb (v3 + (1 : Int32)) N) (ck (inb (v3 + (2 : Int32)) N) (ck (inb (v3 + (3 : Int32)) N) (ck (inb (v3 + (4 : Int32)) N) (ck (inb (v3 + (5 : Int32)) N) (bd (F_X11_alone (xs ((v3 + (1 : Int32)).toNatClampNeg)) (xs ((v3 + (2 : Int32)).toNatClampNeg)) (xs ((v3 + (3 : Int32)).toNatClampNeg)) (xs ((v3 + (4 : Int32)).toNatClampNeg)) (xs ((v3 + (5 : Int32)).toNatClampNeg)) σ201) fun r210 σ209 => (if r202 = r210 then nam (v3 + (6 : Int32)) fun x212 => L_law N xs n x212 σ209 else some ((0 : Int32), σ209)))))))))))) else (if ((xs (v3.toNatClampNeg)) &&& (63 : Int32)) = (18 : Int32) then ck (inb (v3 + (1 : Int32)) N) (ck (inb (v3 + (2 : Int32)) N) (ck (inb (v3 + (3 : Int32)) N) (ck (inb (v3 + (4 : Int32)) N) (bd (F_X10_reach (xs ((v3 + (1 : Int32)).toNatClampNeg)) (xs ((v3 + (2 : Int32)).toNatClampNeg)) (xs ((v3 + (3 : Int32)).toNatClampNeg)) (xs ((v3 + (4 : Int32)).toNatClampNeg)) τ) fun r220 σ219 => ck (inb (v3 + (1 : Int32)) N) (ck (inb (v3 + (2 : Int32)) N) (ck (inb (v3 + (3 : Int32)) N) (ck (inb (v3 + (4 : Int32)) N) (bd (F_X11_reach (xs ((v3 + (1 : Int32)).toNatClampNeg)) (xs ((v3 + (2 : Int32)).toNatClampNeg)) (xs ((v3 + (3 : Int32)).toNatClampNeg)) (xs ((v3 + (4 : Int32)).toNatClampNeg)) σ219) fun r227 σ226 => (if r220 = r227 then nam (v3 + (6 : Int32)) fun x229 => L_law N xs n x229 σ226 else some ((0 : Int32), σ226)))))))))) else (if ((xs (v3.toNatClampNeg)) &&& (63 : Int32)) = (19 : Int32) then ck (inb (v3 + (1 : Int32)) N) (ck (inb (v3 + (2 : Int32)) N) (ck (inb (v3 + (3 : Int32)) N) (ck (inb (v3 + (4 : Int32)) N) (bd (F_X10_ring (xs ((v3 + (1 : Int32)).toNatClampNeg)) (xs ((v3 + (2 : Int32)).toNatClampNeg)) (xs ((v3 + (3 : Int32)).toNatClampNeg)) (xs ((v3 + (4 : Int32)).toNatClampNeg)) τ) fun r237 σ236 => ck (inb (v3 + (1 : Int32)) N) (ck (inb (v3 + (2 : Int32)) N) (ck (inb (v3 + (3 : Int32)) N) (ck (inb (v3 + (4 : Int32)) N) (bd (F_X11_ring (xs ((v3 + (1 : Int32)).toNatClampNeg)) (xs ((v3 + (2 : Int32)).toNatClampNeg)) (xs ((v3 + (3 : Int32)).toNatClampNeg)) (xs ((v3 + (4 : Int32)).toNatClampNeg)) σ236) fun r244 σ243 => (if r237 = r244 then nam (v3 + (6 : Int32)) fun x246 => L_law N xs n x246 σ243 else some ((0 : Int32), σ243)))))))))) else (if ((xs (v3.toNatClampNeg)) &&& (63 : Int32)) = (20 : Int32) then ck (inb (v3 + (1 : Int32)) N) (ck (inb (v3 + (2 : Int32)) N) (ck (inb (v3 + (3 : Int32)) N) (bd (F_X10_falls (xs ((v3 + (1 : Int32)).toNatClampNeg)) (xs ((v3 + (2 : Int32)).toNatClampNeg)) (xs ((v3 + (3 : Int32)).toNatClampNeg)) τ) fun r253 σ252 => ck (inb (v3 + (1 : Int32)) N) (ck (inb (v3 + (2 : Int32)) N) (ck (inb (v3 + (3 : Int32)) N) (bd (F_X11_falls (xs ((v3 + (1 : Int32)).toNatClampNeg)) (xs ((v3 + (2 : Int32)).toNatClampNeg)) (xs ((v3 + (3 : Int32)).toNatClampNeg)) σ252) fun r259 σ258 => (if (lg_cmp r253 r259) = 0 then nam (v3 + (6 : Int32)) fun x261 => L_law N xs n x261 σ258 else some ((0 : Int32), σ258)))))))) else (if ((xs (v3.toNatClampNeg)) &&& (63 : Int32)) = (21 : Int32) then ck (inb (v3 + (1 : Int32)) N) (ck (inb (v3 + (2 : Int32)) N) (ck (inb (v3 + (3 : Int32)) N) (ck (inb (v3 + (4 : Int32)) N) (ck (inb (v3 + (5 : Int32)) N) (bd (F_X10_mend (xs ((v3 + (1 : Int32)).toNatClampNeg)) (xs ((v3 + (2 : Int32)).toNatClampNeg)) (xs ((v3 + (3 : Int32)).toNatClampNeg)) (xs ((v3 + (4 : Int32)).toNatClampNeg)) (xs ((v3 + (5 : Int32)).toNatClampNeg)) τ) fun r270 σ269 => ck (inb (v3 + (1 : Int32)) N) (ck (inb (v3 + (2 : Int32)) N) (ck (inb (v3 + (3 : Int32)) N) (ck (inb (v3 + (4 : Int32)) N) (ck (inb (v3 + (5 : Int32)) N) (bd (F_X11_mend (xs ((v3 + (1 : Int32)).toNatClampNeg)) (xs ((v3 + (2 : Int32)).toNatClampNeg)) (xs ((v3 + (3 : Int32)).toNatClampNeg)) (xs ((v3 + (4 : Int32)).toNatClampNeg)) (xs ((v3 + (5 : Int32)).toNatClampNeg)) σ269) fun r278 σ277 => (if r270 = r278 then nam (v3 + (6 : Int32)) fun x280 => L_law N xs n x280 σ277 else some ((0 : Int32), σ277)))))))))))) else (if ((xs (v3.toNatClampNeg)) &&& (63 : Int32)) = (22 : Int32) then ck (inb (v3 + (1 : Int32)) N) (ck (inb (v3 + (2 : Int32)) N) (ck (inb (v3 + (3 : Int32)) N) (nam (fun (y286 : Int32) (σ288 : St) => bd (F_X10_life (xs ((v3 + (1 : Int32)).toNatClampNeg)) (xs ((v3 + (2 : Int32)).toNatClampNeg)) y286 σ288) fun r290 σ289 => ck (inb (v3 + (1 : Int32)) N) (ck (inb (v3 + (2 : Int32)) N) (ck (inb (v3 + (3 : Int32)) N) (nam (fun (y295 : Int32) (σ297 : St) => bd (F_X11_life (xs ((v3 + (1 : Int32)).toNatClampNeg)) (xs ((v3 + (2 : Int32)).toNatClampNeg)) y295 σ297) fun r299 σ298 => (if r290 = r299 then nam (v3 + (6 : Int32)) fun x301 => L_law N xs n x301 σ298 else some ((0 : Int32), σ298))) fun k296 => (if (xs ((v3 + (3 : Int32)).toNatClampNeg)) = 0 then k296 (0 : Int32) σ289 else k296 (1 : Int32) σ289))))) fun k287 => (if (xs ((v3 + (3 : Int32)).toNatClampNeg)) = 0 then k287 (0 : Int32) τ else k287 (1 : Int32) τ)))) else (if ((xs (v3.toNatClampNeg)) &&& (63 : Int32)) = (23 : Int32) then ck (inb (v3 + (1 : Int32)) N) (ck (inb (v3 + (2 : Int32)) N) (nam (fun (y308 : Int32) (σ310 : St) => ck (inb (v3 + (3 : Int32)) N) (bd (F_X10_hump (xs ((v3 + (1 : Int32)).toNatClampNeg)) y308 (xs ((v3 + (3 : Int32)).toNatClampNeg)) σ310) fun r313 σ312 => ck (inb (v3 + (1 : Int32)) N) (ck (inb (v3 + (2 : Int32)) N) (nam (fun (y317 : Int32) (σ319 : St) => ck (inb (v3 + (3 : Int32)) N) (bd (F_X11_hump (xs ((v3 + (1 : Int32)).toNatClampNeg)) y317 (xs ((v3 + (3 : Int32)).toNatClampNeg)) σ319) fun r322 σ321 => (if r313 = r322 then nam (v3 + (6 : Int32)) fun x324 => L_law N xs n x324 σ321 else some ((0 : Int32), σ321)))) fun k318 => (if (xs ((v3 + (2 : Int32)).toNatClampNeg)) = 0 then k318 (0 : Int32) σ312 else k318 (1 : Int32) σ312))))) fun k309 => (if (xs ((v3 + (2 : Int32)).toNatClampNeg)) = 0 then k309 (0 : Int32) τ else k309 (1 : Int32) τ))) else (if ((xs (v3.toNatClampNeg)) &&& (63 : Int32)) = (24 : Int32) then ck (inb (v3 + (1 : Int32)) N) (ck (inb (v3 + (2 : Int32)) N) (ck (inb (v3 + (3 : Int32)) N) (nam (fun (y332 : Int32) (σ334 : St) => ck (inb (v3 + (4 : Int32)) N) (bd (F_X10_hot (xs ((v3 + (1 : Int32)).toNatClampNeg)) (xs ((v3 + (2 : Int32)).toNatClampNeg)) y332 (xs ((v3 + (4 : Int32)).toNatClampNeg)) σ334) fun r337 σ336 => ck (inb (v3 + (1 : Int32)) N) (ck (inb (v3 + (2 : Int32)) N) (ck (inb (v3 + (3 : Int32)) N) (nam (fun (y342 : Int32) (σ344 : St) => ck (inb (v3 + (4 : Int32)) N) (bd (F_X11_hot (xs ((v3 + (1 : Int32)).toNatClampNeg)) (xs ((v3 + (2 : Int32)).toNatClampNeg)) y342 (xs ((v3 + (4 : Int32)).toNatClampNeg)) σ344) fun r347 σ346 => (if r337 = r347 then nam (v3 + (6 : Int32)) fun x349 => L_law N xs n x349 σ346 else some ((0 : Int32), σ346)))) fun k343 => (if (xs ((v3 + (3 : Int32)).toNatClampNeg)) = 0 then k343 (0 : Int32) σ336 else k343 (1 : Int32) σ336)))))) fun k333 => (if (xs ((v3 + (3 : Int32)).toNatClampNeg)) = 0 then k333 (0 : Int32) τ else k333 (1 : Int32) τ)))) else (if ((xs (v3.toNatClampNeg)) &&& (63 : Int32)) = (25 : Int32) then ck (inb (v3 + (1 : Int32)) N) (ck (inb (v3 + (2 : Int32)) N) (ck (inb (v3 + (3 : Int32)) N) (ck (inb (v3 + (4 : Int32)) N) (bd (F_X10_odds (xs ((v3 + (1 : Int32)).toNatClampNeg)) (xs ((v3 + (2 : Int32)).toNatClampNeg)) (xs ((v3 + (3 : Int32)).toNatClampNeg)) (xs ((v3 + (4 : Int32)).toNatClampNeg)) τ) fun r359 σ358 => ck (inb (v3 + (1 : Int32)) N) (ck (inb (v3 + (2 : Int32)) N) (ck (inb (v3 + (3 : Int32)) N) (ck (inb (v3 + (4 : Int32)) N) (bd (F_X11_odds (xs ((v3 + (1 : Int32)).toNatClampNeg)) (xs ((v3 + (2 : Int32)).toNatClampNeg)) (xs ((v3 + (3 : Int32)).toNatClampNeg)) (xs ((v3 + (4 : Int32)).toNatClampNeg)) σ358) fun r366 σ365 => (if (lg_cmp r359 r366) = 0 then nam (v3 + (6 : Int32)) fun x368 => L_law N xs n x368 σ365 else some ((0 : Int32), σ365)))))))))) else (if ((xs (v3.toNatClampNeg)) &&& (63 : Int32)) = (26 : Int32) then ck (inb (v3 + (1 : Int32)) N) (ck (inb (v3 + (2 : Int32)) N) (ck (inb (v3 + (3 : Int32)) N) (bd (F_X10_cools (xs ((v3 + (1 : Int32)).toNatClampNeg)) (xs ((v3 + (2 : Int32)).toNatClampNeg)) (xs ((v3 + (3 : Int32)).toNatClampNeg)) τ) fun r375 σ374 => ck (inb (v3 + (1 : Int32)) N) (ck (inb (v3 + (2 : Int32)) N) (ck (inb (v3 + (3 : Int32)) N) (bd (F_X11_cools (xs ((v3 + (1 : Int32)).toNatClampNeg)) (xs ((v3 + (2 : Int32)).toNatClampNeg)) (xs ((v3 + (3 : Int32)).toNatClampNeg)) σ374) fun r381 σ380 => (if r375 = r381 then nam (v3 + (6 : Int32)) fun x383 => L_law N xs n x383 σ380 else some ((0 : Int32), σ380)))))))) else (if ((xs (v3.toNatClampNeg)) &&& (63 : Int32)) = (27 : Int32) then ck (inb (v3 + (1 : Int32)) N) (ck (inb (v3 + (2 : Int32)) N) (ck (inb (v3 + (3 : Int32)) N) (nam (fun (y389 : Int32) (σ391 : St) => ck (inb (v3 + (4 : Int32)) N) (bd (F_X10_saw (xs ((v3 + (1 : Int32)).toNatClampNeg)) (xs ((v3 + (2 : Int32)).toNatClampNeg)) y389 (xs ((v3 + (4 : Int32)).toNatClampNeg)) σ391) fun r394 σ393 => ck (inb (v3 + (1 : Int32)) N) (ck (inb (v3 + (2 : Int32)) N) (ck (inb (v3 + (3 : Int32)) N) (nam (fun (y399 : Int32) (σ401 : St) => ck (inb (v3 + (4 : Int32)) N) (bd (F_X11_saw (xs ((v3 + (1 : Int32)).toNatClampNeg)) (xs ((v3 + (2 : Int32)).toNatClampNeg)) y399 (xs ((v3 + (4 : Int32)).toNatClampNeg)) σ401) fun r404 σ403 => (if r394 = r404 then nam (v3 + (6 : Int32)) fun x406 => L_law N xs n x406 σ403 else some ((0 : Int32), σ403)))) fun k400 => (if (xs ((v3 + (3 : Int32)).toNatClampNeg)) = 0 then k400 (0 : Int32) σ393 else k400 (1 : Int32) σ393)))))) fun k390 => (if (xs ((v3 + (3 : Int32)).toNatClampNeg)) = 0 then k390 (0 : Int32) τ else k390 (1 : Int32) τ)))) else (if ((xs (v3.toNatClampNeg)) &&& (63 : Int32)) = (28 : Int32) then bd (F_X10_forget  τ) fun r412 σ411 => bd (F_X11_forget  σ411) fun r415 σ414 => (if r412 = r415 then nam (v3 + (6 : Int32)) fun x417 => L_law N xs n x417 σ414 else some ((0 : Int32), σ414)) else (if ((xs (v3.toNatClampNeg)) &&& (63 : Int32)) = (29 : Int32) then ck (inb (v3 + (1 : Int32)) N) (bd (F_X10_fits (xs ((v3 + (1 : Int32)).toNatClampNeg)) τ) fun r422 σ421 => ck (inb (v3 + (1 : Int32)) N) (bd (F_X11_fits (xs ((v3 + (1 : Int32)).toNatClampNeg)) σ421) fun r426 σ425 => (if r422 = r426 then nam (v3 + (6 : Int32)) fun x428 => L_law N xs n x428 σ425 else some ((0 : Int32), σ425)))) else (if ((xs (v3.toNatClampNeg)) &&& (63 : Int32)) = (30 : Int32) then bd (F_X10_right  τ) fun r432 σ431 => bd (F_X11_right  σ431) fun r435 σ434 => (if r432 = r435 then nam (v3 + (6 : Int32)) fun x437 => L_law N xs n x437 σ434 else some ((0 : Int32), σ434)) else (if ((xs (v3.toNatClampNeg)) &&& (63 : Int32)) = (31 : Int32) then ck (inb (v3 + (1 : Int32)) N) (ck (inb (v3 + (2 : Int32)) N) (ck (inb (v3 + (3 : Int32)) N) (bd (F_X10_sheet (xs ((v3 + (1 : Int32)).toNatClampNeg)) (xs ((v3 + (2 : Int32)).toNatClampNeg)) (xs ((v3 + (3 : Int32)).toNatClampNeg)) τ) fun r444 σ443 => ck (inb (v3 + (1 : Int32)) N) (ck (inb (v3 + (2 : Int32)) N) (ck (inb (v3 + (3 : Int32)) N) (bd (F_X11_sheet (xs ((v3 + (1 : Int32)).toNatClampNeg)) (xs ((v3 + (2 : Int32)).toNatClampNeg)) (xs ((v3 + (3 : Int32)).toNatClampNeg)) σ443) fun r450 σ449 => (if r444 = r450 then nam (v3 + (6 : Int32)) fun x452 => L_law N xs n x452 σ449 else some ((0 : Int32), σ449)))))))) else (if ((xs (v3.toNatClampNeg)) &&& (63 : Int32)) = (32 : Int32) then ck (inb (v3 + (1 : Int32)) N) (ck (inb (v3 + (2 : Int32)) N) (ck (inb (v3 + (3 : Int32)) N) (bd (F_X10_lay (xs ((v3 + (1 : Int32)).toNatClampNeg)) (xs ((v3 + (2 : Int32)).toNatClampNeg)) (xs ((v3 + (3 : Int32)).toNatClampNeg)) τ) fun r459 σ458 => ck (inb (v3 + (1 : Int32)) N) (ck (inb (v3 + (2 : Int32)) N) (ck (inb (v3 + (3 : Int32)) N) (bd (F_X11_lay (xs ((v3 + (1 : Int32)).toNatClampNeg)) (xs ((v3 + (2 : Int32)).toNatClampNeg)) (xs ((v3 + (3 : Int32)).toNatClampNeg)) σ458) fun r465 σ464 => (if r459 = r465 then nam (v3 + (6 : Int32)) fun x467 => L_law N xs n x467 σ464 else some ((0 : Int32), σ464)))))))) else (if ((xs (v3.toNatClampNeg)) &&& (63 : Int32)) = (33 : Int32) then ck (inb (v3 + (1 : Int32)) N) (ck (inb (v3 + (2 : Int32)) N) (ck (inb (v3 + (3 : Int32)) N) (ck (inb (v3 + (4 : Int32)) N) (bd (F_X10_read (xs ((v3 + (1 : Int32)).toNatClampNeg)) (xs ((v3 + (2 : Int32)).toNatClampNeg)) (xs ((v3 + (3 : Int32)).toNatClampNeg)) (xs ((v3 + (4 : Int32)).toNatClampNeg)) τ) fun r475 σ474 => ck (inb (v3 + (1 : Int32)) N) (ck (inb (v3 + (2 : Int32)) N) (ck (inb (v3 + (3 : Int32)) N) (ck (inb (v3 + (4 : Int32)) N) (bd (F_X11_read (xs ((v3 + (1 : Int32)).toNatClampNeg)) (xs ((v3 + (2 : Int32)).toNatClampNeg)) (xs ((v3 + (3 : Int32)).toNatClampNeg)) (xs ((v3 + (4 : Int32)).toNatClampNeg)) σ474) fun r482 σ481 => (if r475 = r482 then nam (v3 + (6 : Int32)) fun x484 => L_law N xs n x484 σ481 else some ((0 : Int32), σ481)))))))))) else (if ((xs (v3.toNatClampNeg)) &&& (63 : Int32)) = (34 : Int32) then bd (F_X10_torn  τ) fun r488 σ487 => bd (F_X11_torn  σ487) fun r491 σ490 => (if r488 = r491 then nam (v3 + (6 : Int32)) fun x493 => L_law N xs n x493 σ490 else some ((0 : Int32), σ490)) else (if ((xs (v3.toNatClampNeg)) &&& (63 : Int32)) = (35 : Int32) then ck (inb (v3 + (1 : Int32)) N) (bd (F_X10_count (xs ((v3 + (1 : Int32)).toNatClampNeg)) τ) fun r498 σ497 => ck (inb (v3 + (1 : Int32)) N) (bd (F_X11_count (xs ((v3 + (1 : Int32)).toNatClampNeg)) σ497) fun r502 σ501 => (if r498 = r502 then nam (v3 + (6 : Int32)) fun x504 => L_law N xs n x504 σ501 else some ((0 : Int32), σ501)))) else nam (v3 + (6 : Int32)) fun x506 => L_law N xs n x506 τ))))))))))))))))))))))))))))))))))))))
set_option maxRecDepth 20000 in
set_option maxHeartbeats 40000000 in
theorem l_law {G : Gx} {p : Program} {l : Launch} {e : Env} {s : State} {m : MethodId} {b : Nat} {below : List Frame} {meth : Method} {c : Code} {cells slots : Nat} (C : Cx G p s m #[Value.ref b] meth c ret 4 R_law code) (hG : ∀ d ∈ ids, s.heap.size ≤ G.1 d) (hcl : cells ≤ 600000) (hsl : slots ≤ 7302250) {N : Nat} {xs : Nat → Int32} (hN : G.2.2.2.1 = N) (hxs : G.2.2.2.2.1 = xs) {σ' : St} : ∀ (n : Nat) (v3 : Int32) (τ : St), L_law N xs n v3 τ = some ((1 : Int32), σ') → Rt G p l e room_1 s m #[Value.ref b] below meth c cells slots (lw_Z below #[Value.ref b] s) 4 18 [(0, vR (110, 0, 0)), (1, vR (0, 0, 0)), (2, vR (40, 0, 0)), (3, vI v3)] [] τ := by
  intro n
  induction n with
  | zero => intro v3 τ hF; cases hF
  | succ n ih =>
    intro v3 τ hF
    unfold L_law at hF
    refine r_iload_n C 3 3 dL_law_18 rfl rfl ?_
    refine r_aload_n C 0 0 dL_law_19 rfl rfl ?_
    refine r_scl C hN dL_law_20 ?_
    refine r_bipush (v := (6 : Int32)) C dL_law_21 rfl ?_
    refine r_isub C dL_law_23 ?_
    refine r_icmp_gt C 1492 dL_law_24 (by decide)  (fun h507 => ?_) (fun h507 => ?_)
    · have hF := if_t h507 hF
      refine r_iconst (v := (1 : Int32)) C dL_law_1492 rfl ?_
      exact r_law1 C hG hcl hsl dL_law_1493
    · have hF := if_f h507 hF
      refine r_aload_n C 0 0 dL_law_27 rfl rfl ?_
      refine r_iload_n C 3 3 dL_law_28 rfl rfl ?_
      obtain ⟨h1, hF⟩ := ck_e hF
      refine r_scr C hN hxs (v3.toNatClampNeg) dL_law_29 h1 rfl ?_
      refine r_bipush (v := (63 : Int32)) C dL_law_30 rfl ?_
      refine r_iand C dL_law_32 ?_
      by_cases h2 : ((xs (v3.toNatClampNeg)) &&& (63 : Int32)) = (0 : Int32)
      · have hF := if_t h2 hF
        refine r_tabIn (off := 159) C 192 dL_law_33 (by rw [h2]; decide) (by rw [h2]; decide) (by rw [h2]; rfl) (by decide) ?_
        refine r_aload_n C 1 1 dL_law_192 rfl rfl ?_
        refine r_aload_n C 0 0 dL_law_193 rfl rfl ?_
        refine r_iload_n C 3 3 dL_law_194 rfl rfl ?_
        refine r_iconst (v := (1 : Int32)) C dL_law_195 rfl ?_
        refine r_iadd C dL_law_196 ?_
        obtain ⟨h3, hF⟩ := ck_e hF
        refine r_scr C hN hxs ((v3 + (1 : Int32)).toNatClampNeg) dL_law_197 h3 rfl ?_
        refine r_i2l C dL_law_198 ?_
        refine r_bipush (v := (32 : Int32)) C dL_law_199 rfl ?_
        refine r_lshl C dL_law_201 ?_
        refine r_aload_n C 0 0 dL_law_202 rfl rfl ?_
        refine r_iload_n C 3 3 dL_law_203 rfl rfl ?_
        refine r_iconst (v := (2 : Int32)) C dL_law_204 rfl ?_
        refine r_iadd C dL_law_205 ?_
        obtain ⟨h4, hF⟩ := ck_e hF
        refine r_scr C hN hxs ((v3 + (2 : Int32)).toNatClampNeg) dL_law_206 h4 rfl ?_
        refine r_i2l C dL_law_207 ?_
        refine r_ldc2_w (v := (4294967295 : Int64)) C dL_law_208 t_7_16 ?_
        refine r_land C dL_law_211 ?_
        refine r_lor C dL_law_212 ?_
        obtain ⟨r6, σ5, e7, hF⟩ := bd_e hF
        refine r_callV_i (as := [vL ((((xs ((v3 + (1 : Int32)).toNatClampNeg)).toInt64) <<< ((32 : Int32).toInt64 &&& 63)) ||| (((xs ((v3 + (2 : Int32)).toNatClampNeg)).toInt64) &&& (4294967295 : Int64)))]) (st := []) C dL_law_213 (s_X10_feed G l e7) rfl rfl rfl t_2_133 t_2_134 t_2_135 t_1_1 t_2_136 m_X10_feed ⟨Nat.le_of_ble_eq_true rfl, Nat.le_of_ble_eq_true rfl⟩ ⟨rfl, rfl⟩ ⟨hcl, hsl⟩ rfl (Nat.le_of_ble_eq_true rfl) ?_
        refine r_aload_n C 2 2 dL_law_216 rfl rfl ?_
        refine r_aload_n C 0 0 dL_law_217 rfl rfl ?_
        refine r_iload_n C 3 3 dL_law_218 rfl rfl ?_
        refine r_iconst (v := (1 : Int32)) C dL_law_219 rfl ?_
        refine r_iadd C dL_law_220 ?_
        obtain ⟨h8, hF⟩ := ck_e hF
        refine r_scr C hN hxs ((v3 + (1 : Int32)).toNatClampNeg) dL_law_221 h8 rfl ?_
        refine r_i2l C dL_law_222 ?_
        refine r_bipush (v := (32 : Int32)) C dL_law_223 rfl ?_
        refine r_lshl C dL_law_225 ?_
        refine r_aload_n C 0 0 dL_law_226 rfl rfl ?_
        refine r_iload_n C 3 3 dL_law_227 rfl rfl ?_
        refine r_iconst (v := (2 : Int32)) C dL_law_228 rfl ?_
        refine r_iadd C dL_law_229 ?_
        obtain ⟨h9, hF⟩ := ck_e hF
        refine r_scr C hN hxs ((v3 + (2 : Int32)).toNatClampNeg) dL_law_230 h9 rfl ?_
        refine r_i2l C dL_law_231 ?_
        refine r_ldc2_w (v := (4294967295 : Int64)) C dL_law_232 t_7_16 ?_
        refine r_land C dL_law_235 ?_
        refine r_lor C dL_law_236 ?_
        obtain ⟨r11, σ10, e12, hF⟩ := bd_e hF
        refine r_callV_i (as := [vL ((((xs ((v3 + (1 : Int32)).toNatClampNeg)).toInt64) <<< ((32 : Int32).toInt64 &&& 63)) ||| (((xs ((v3 + (2 : Int32)).toNatClampNeg)).toInt64) &&& (4294967295 : Int64)))]) (st := [vI r6]) C dL_law_237 (s_X11_feed G l e12) rfl rfl rfl t_5_144 t_5_145 t_5_146 t_1_14 t_5_147 m_X11_feed ⟨Nat.le_of_ble_eq_true rfl, Nat.le_of_ble_eq_true rfl⟩ ⟨rfl, rfl⟩ ⟨hcl, hsl⟩ rfl (Nat.le_of_ble_eq_true rfl) ?_
        refine r_icmp_eq C 1486 dL_law_240 (by decide)  (fun h14 => ?_) (fun h14 => ?_)
        · have hF := if_t h14 hF
          obtain ⟨x13, ex13, hF⟩ := nam_e hF
          refine r_iinc (v := x13) (ls2 := [(3, vI x13), (0, vR (110, 0, 0)), (1, vR (0, 0, 0)), (2, vR (40, 0, 0))]) C 3 dL_law_1486 rfl ex13.symm (by decide) rfl ?_
          refine r_goto C 18 dL_law_1489 (by decide) ?_
          refine r_drop (ls2 := [(0, vR (110, 0, 0)), (1, vR (0, 0, 0)), (2, vR (40, 0, 0)), (3, vI x13)]) [1, 2, 3, 0] rfl ?_
          exact ih _ _ hF
        · have hF := if_f h14 hF
          refine r_iconst (v := (0 : Int32)) C dL_law_243 rfl ?_
          exact absurd (rt_e hF).1 (by decide)
      have hF := if_f h2 hF
      by_cases h15 : ((xs (v3.toNatClampNeg)) &&& (63 : Int32)) = (1 : Int32)
      · have hF := if_t h15 hF
        refine r_tabIn (off := 212) C 245 dL_law_33 (by rw [h15]; decide) (by rw [h15]; decide) (by rw [h15]; rfl) (by decide) ?_
        refine r_aload_n C 1 1 dL_law_245 rfl rfl ?_
        refine r_aload_n C 0 0 dL_law_246 rfl rfl ?_
        refine r_iload_n C 3 3 dL_law_247 rfl rfl ?_
        refine r_iconst (v := (1 : Int32)) C dL_law_248 rfl ?_
        refine r_iadd C dL_law_249 ?_
        obtain ⟨h16, hF⟩ := ck_e hF
        refine r_scr C hN hxs ((v3 + (1 : Int32)).toNatClampNeg) dL_law_250 h16 rfl ?_
        obtain ⟨r18, σ17, e19, hF⟩ := bd_e hF
        refine r_callV_i (as := [vI (xs ((v3 + (1 : Int32)).toNatClampNeg))]) (st := []) C dL_law_251 (s_X10_end G l e19) rfl rfl rfl t_2_137 t_2_138 t_2_139 t_1_1 t_2_140 m_X10_end ⟨Nat.le_of_ble_eq_true rfl, Nat.le_of_ble_eq_true rfl⟩ ⟨rfl, rfl⟩ ⟨hcl, hsl⟩ rfl (Nat.le_of_ble_eq_true rfl) ?_
        refine r_aload_n C 2 2 dL_law_254 rfl rfl ?_
        refine r_aload_n C 0 0 dL_law_255 rfl rfl ?_
        refine r_iload_n C 3 3 dL_law_256 rfl rfl ?_
        refine r_iconst (v := (1 : Int32)) C dL_law_257 rfl ?_
        refine r_iadd C dL_law_258 ?_
        obtain ⟨h20, hF⟩ := ck_e hF
        refine r_scr C hN hxs ((v3 + (1 : Int32)).toNatClampNeg) dL_law_259 h20 rfl ?_
        obtain ⟨r22, σ21, e23, hF⟩ := bd_e hF
        refine r_callV_i (as := [vI (xs ((v3 + (1 : Int32)).toNatClampNeg))]) (st := [vI r18]) C dL_law_260 (s_X11_end G l e23) rfl rfl rfl t_5_149 t_5_150 t_5_151 t_1_14 t_5_152 m_X11_end ⟨Nat.le_of_ble_eq_true rfl, Nat.le_of_ble_eq_true rfl⟩ ⟨rfl, rfl⟩ ⟨hcl, hsl⟩ rfl (Nat.le_of_ble_eq_true rfl) ?_
        refine r_icmp_eq C 1486 dL_law_263 (by decide)  (fun h25 => ?_) (fun h25 => ?_)
        · have hF := if_t h25 hF
          obtain ⟨x24, ex24, hF⟩ := nam_e hF
          refine r_iinc (v := x24) (ls2 := [(3, vI x24), (0, vR (110, 0, 0)), (1, vR (0, 0, 0)), (2, vR (40, 0, 0))]) C 3 dL_law_1486 rfl ex24.symm (by decide) rfl ?_
          refine r_goto C 18 dL_law_1489 (by decide) ?_
          refine r_drop (ls2 := [(0, vR (110, 0, 0)), (1, vR (0, 0, 0)), (2, vR (40, 0, 0)), (3, vI x24)]) [1, 2, 3, 0] rfl ?_
          exact ih _ _ hF
        · have hF := if_f h25 hF
          refine r_iconst (v := (0 : Int32)) C dL_law_266 rfl ?_
          exact absurd (rt_e hF).1 (by decide)
      have hF := if_f h15 hF
      by_cases h26 : ((xs (v3.toNatClampNeg)) &&& (63 : Int32)) = (2 : Int32)
      · have hF := if_t h26 hF
        refine r_tabIn (off := 235) C 268 dL_law_33 (by rw [h26]; decide) (by rw [h26]; decide) (by rw [h26]; rfl) (by decide) ?_
        refine r_aload_n C 1 1 dL_law_268 rfl rfl ?_
        obtain ⟨r28, σ27, e29, hF⟩ := bd_e hF
        refine r_callV_i (as := []) (st := []) C dL_law_269 (s_X10_text G l e29) rfl rfl rfl t_2_144 t_2_145 t_2_146 t_1_1 t_2_147 m_X10_text ⟨Nat.le_of_ble_eq_true rfl, Nat.le_of_ble_eq_true rfl⟩ ⟨rfl, rfl⟩ ⟨hcl, hsl⟩ rfl (Nat.le_of_ble_eq_true rfl) ?_
        refine r_aload_n C 2 2 dL_law_272 rfl rfl ?_
        obtain ⟨r31, σ30, e32, hF⟩ := bd_e hF
        refine r_callV_i (as := []) (st := [vI r28]) C dL_law_273 (s_X11_text G l e32) rfl rfl rfl t_5_156 t_5_157 t_5_158 t_1_14 t_5_159 m_X11_text ⟨Nat.le_of_ble_eq_true rfl, Nat.le_of_ble_eq_true rfl⟩ ⟨rfl, rfl⟩ ⟨hcl, hsl⟩ rfl (Nat.le_of_ble_eq_true rfl) ?_
        refine r_icmp_eq C 1486 dL_law_276 (by decide)  (fun h34 => ?_) (fun h34 => ?_)
        · have hF := if_t h34 hF
          obtain ⟨x33, ex33, hF⟩ := nam_e hF
          refine r_iinc (v := x33) (ls2 := [(3, vI x33), (0, vR (110, 0, 0)), (1, vR (0, 0, 0)), (2, vR (40, 0, 0))]) C 3 dL_law_1486 rfl ex33.symm (by decide) rfl ?_
          refine r_goto C 18 dL_law_1489 (by decide) ?_
          refine r_drop (ls2 := [(0, vR (110, 0, 0)), (1, vR (0, 0, 0)), (2, vR (40, 0, 0)), (3, vI x33)]) [1, 2, 3, 0] rfl ?_
          exact ih _ _ hF
        · have hF := if_f h34 hF
          refine r_iconst (v := (0 : Int32)) C dL_law_279 rfl ?_
          exact absurd (rt_e hF).1 (by decide)
      have hF := if_f h26 hF
      by_cases h35 : ((xs (v3.toNatClampNeg)) &&& (63 : Int32)) = (3 : Int32)
      · have hF := if_t h35 hF
        refine r_tabIn (off := 248) C 281 dL_law_33 (by rw [h35]; decide) (by rw [h35]; decide) (by rw [h35]; rfl) (by decide) ?_
        refine r_aload_n C 1 1 dL_law_281 rfl rfl ?_
        obtain ⟨r37, σ36, e38, hF⟩ := bd_e hF
        refine r_callV_i (as := []) (st := []) C dL_law_282 (s_X10_fault G l e38) rfl rfl rfl t_3_105 t_3_106 t_3_107 t_1_1 t_3_108 m_X10_fault ⟨Nat.le_of_ble_eq_true rfl, Nat.le_of_ble_eq_true rfl⟩ ⟨rfl, rfl⟩ ⟨hcl, hsl⟩ rfl (Nat.le_of_ble_eq_true rfl) ?_
        refine r_aload_n C 2 2 dL_law_285 rfl rfl ?_
        obtain ⟨r40, σ39, e41, hF⟩ := bd_e hF
        refine r_callV_i (as := []) (st := [vI r37]) C dL_law_286 (s_X11_fault G l e41) rfl rfl rfl t_5_210 t_5_211 t_5_212 t_1_14 t_5_213 m_X11_fault ⟨Nat.le_of_ble_eq_true rfl, Nat.le_of_ble_eq_true rfl⟩ ⟨rfl, rfl⟩ ⟨hcl, hsl⟩ rfl (Nat.le_of_ble_eq_true rfl) ?_
        refine r_icmp_eq C 1486 dL_law_289 (by decide)  (fun h43 => ?_) (fun h43 => ?_)
        · have hF := if_t h43 hF
          obtain ⟨x42, ex42, hF⟩ := nam_e hF
          refine r_iinc (v := x42) (ls2 := [(3, vI x42), (0, vR (110, 0, 0)), (1, vR (0, 0, 0)), (2, vR (40, 0, 0))]) C 3 dL_law_1486 rfl ex42.symm (by decide) rfl ?_
          refine r_goto C 18 dL_law_1489 (by decide) ?_
          refine r_drop (ls2 := [(0, vR (110, 0, 0)), (1, vR (0, 0, 0)), (2, vR (40, 0, 0)), (3, vI x42)]) [1, 2, 3, 0] rfl ?_
          exact ih _ _ hF
        · have hF := if_f h43 hF
          refine r_iconst (v := (0 : Int32)) C dL_law_292 rfl ?_
          exact absurd (rt_e hF).1 (by decide)
      have hF := if_f h35 hF
      by_cases h44 : ((xs (v3.toNatClampNeg)) &&& (63 : Int32)) = (4 : Int32)
      · have hF := if_t h44 hF
        refine r_tabIn (off := 261) C 294 dL_law_33 (by rw [h44]; decide) (by rw [h44]; decide) (by rw [h44]; rfl) (by decide) ?_
        refine r_aload_n C 1 1 dL_law_294 rfl rfl ?_
        refine r_aload_n C 0 0 dL_law_295 rfl rfl ?_
        refine r_iload_n C 3 3 dL_law_296 rfl rfl ?_
        refine r_iconst (v := (1 : Int32)) C dL_law_297 rfl ?_
        refine r_iadd C dL_law_298 ?_
        obtain ⟨h45, hF⟩ := ck_e hF
        refine r_scr C hN hxs ((v3 + (1 : Int32)).toNatClampNeg) dL_law_299 h45 rfl ?_
        obtain ⟨r47, σ46, e48, hF⟩ := bd_e hF
        refine r_callV_i (as := [vI (xs ((v3 + (1 : Int32)).toNatClampNeg))]) (st := []) C dL_law_300 (s_X10_rule G l e48) rfl rfl rfl t_3_109 t_3_110 t_3_111 t_1_1 t_3_112 m_X10_rule ⟨Nat.le_of_ble_eq_true rfl, Nat.le_of_ble_eq_true rfl⟩ ⟨rfl, rfl⟩ ⟨hcl, hsl⟩ rfl (Nat.le_of_ble_eq_true rfl) ?_
        refine r_aload_n C 2 2 dL_law_303 rfl rfl ?_
        refine r_aload_n C 0 0 dL_law_304 rfl rfl ?_
        refine r_iload_n C 3 3 dL_law_305 rfl rfl ?_
        refine r_iconst (v := (1 : Int32)) C dL_law_306 rfl ?_
        refine r_iadd C dL_law_307 ?_
        obtain ⟨h49, hF⟩ := ck_e hF
        refine r_scr C hN hxs ((v3 + (1 : Int32)).toNatClampNeg) dL_law_308 h49 rfl ?_
        obtain ⟨r51, σ50, e52, hF⟩ := bd_e hF
        refine r_callV_i (as := [vI (xs ((v3 + (1 : Int32)).toNatClampNeg))]) (st := [vI r47]) C dL_law_309 (s_X11_rule G l e52) rfl rfl rfl t_5_214 t_5_215 t_5_216 t_1_14 t_5_217 m_X11_rule ⟨Nat.le_of_ble_eq_true rfl, Nat.le_of_ble_eq_true rfl⟩ ⟨rfl, rfl⟩ ⟨hcl, hsl⟩ rfl (Nat.le_of_ble_eq_true rfl) ?_
        refine r_icmp_eq C 1486 dL_law_312 (by decide)  (fun h54 => ?_) (fun h54 => ?_)
        · have hF := if_t h54 hF
          obtain ⟨x53, ex53, hF⟩ := nam_e hF
          refine r_iinc (v := x53) (ls2 := [(3, vI x53), (0, vR (110, 0, 0)), (1, vR (0, 0, 0)), (2, vR (40, 0, 0))]) C 3 dL_law_1486 rfl ex53.symm (by decide) rfl ?_
          refine r_goto C 18 dL_law_1489 (by decide) ?_
          refine r_drop (ls2 := [(0, vR (110, 0, 0)), (1, vR (0, 0, 0)), (2, vR (40, 0, 0)), (3, vI x53)]) [1, 2, 3, 0] rfl ?_
          exact ih _ _ hF
        · have hF := if_f h54 hF
          refine r_iconst (v := (0 : Int32)) C dL_law_315 rfl ?_
          exact absurd (rt_e hF).1 (by decide)
      have hF := if_f h44 hF
      by_cases h55 : ((xs (v3.toNatClampNeg)) &&& (63 : Int32)) = (5 : Int32)
      · have hF := if_t h55 hF
        refine r_tabIn (off := 284) C 317 dL_law_33 (by rw [h55]; decide) (by rw [h55]; decide) (by rw [h55]; rfl) (by decide) ?_
        refine r_aload_n C 1 1 dL_law_317 rfl rfl ?_
        refine r_aload_n C 0 0 dL_law_318 rfl rfl ?_
        refine r_iload_n C 3 3 dL_law_319 rfl rfl ?_
        refine r_iconst (v := (1 : Int32)) C dL_law_320 rfl ?_
        refine r_iadd C dL_law_321 ?_
        obtain ⟨h56, hF⟩ := ck_e hF
        refine r_scr C hN hxs ((v3 + (1 : Int32)).toNatClampNeg) dL_law_322 h56 rfl ?_
        obtain ⟨r58, σ57, e59, hF⟩ := bd_e hF
        refine r_callV_i (as := [vI (xs ((v3 + (1 : Int32)).toNatClampNeg))]) (st := []) C dL_law_323 (s_X10_cell G l e59) rfl rfl rfl t_3_114 t_3_115 t_3_116 t_1_1 t_3_117 m_X10_cell ⟨Nat.le_of_ble_eq_true rfl, Nat.le_of_ble_eq_true rfl⟩ ⟨rfl, rfl⟩ ⟨hcl, hsl⟩ rfl (Nat.le_of_ble_eq_true rfl) ?_
        refine r_aload_n C 2 2 dL_law_326 rfl rfl ?_
        refine r_aload_n C 0 0 dL_law_327 rfl rfl ?_
        refine r_iload_n C 3 3 dL_law_328 rfl rfl ?_
        refine r_iconst (v := (1 : Int32)) C dL_law_329 rfl ?_
        refine r_iadd C dL_law_330 ?_
        obtain ⟨h60, hF⟩ := ck_e hF
        refine r_scr C hN hxs ((v3 + (1 : Int32)).toNatClampNeg) dL_law_331 h60 rfl ?_
        obtain ⟨r62, σ61, e63, hF⟩ := bd_e hF
        refine r_callV_i (as := [vI (xs ((v3 + (1 : Int32)).toNatClampNeg))]) (st := [vI r58]) C dL_law_332 (s_X11_cell G l e63) rfl rfl rfl t_5_219 t_5_220 t_5_221 t_1_14 t_5_222 m_X11_cell ⟨Nat.le_of_ble_eq_true rfl, Nat.le_of_ble_eq_true rfl⟩ ⟨rfl, rfl⟩ ⟨hcl, hsl⟩ rfl (Nat.le_of_ble_eq_true rfl) ?_
        refine r_icmp_eq C 1486 dL_law_335 (by decide)  (fun h65 => ?_) (fun h65 => ?_)
        · have hF := if_t h65 hF
          obtain ⟨x64, ex64, hF⟩ := nam_e hF
          refine r_iinc (v := x64) (ls2 := [(3, vI x64), (0, vR (110, 0, 0)), (1, vR (0, 0, 0)), (2, vR (40, 0, 0))]) C 3 dL_law_1486 rfl ex64.symm (by decide) rfl ?_
          refine r_goto C 18 dL_law_1489 (by decide) ?_
          refine r_drop (ls2 := [(0, vR (110, 0, 0)), (1, vR (0, 0, 0)), (2, vR (40, 0, 0)), (3, vI x64)]) [1, 2, 3, 0] rfl ?_
          exact ih _ _ hF
        · have hF := if_f h65 hF
          refine r_iconst (v := (0 : Int32)) C dL_law_338 rfl ?_
          exact absurd (rt_e hF).1 (by decide)
      have hF := if_f h55 hF
      by_cases h66 : ((xs (v3.toNatClampNeg)) &&& (63 : Int32)) = (6 : Int32)
      · have hF := if_t h66 hF
        refine r_tabIn (off := 307) C 340 dL_law_33 (by rw [h66]; decide) (by rw [h66]; decide) (by rw [h66]; rfl) (by decide) ?_
        refine r_aload_n C 1 1 dL_law_340 rfl rfl ?_
        refine r_aload_n C 0 0 dL_law_341 rfl rfl ?_
        refine r_iload_n C 3 3 dL_law_342 rfl rfl ?_
        refine r_iconst (v := (1 : Int32)) C dL_law_343 rfl ?_
        refine r_iadd C dL_law_344 ?_
        obtain ⟨h67, hF⟩ := ck_e hF
        refine r_scr C hN hxs ((v3 + (1 : Int32)).toNatClampNeg) dL_law_345 h67 rfl ?_
        refine r_aload_n C 0 0 dL_law_346 rfl rfl ?_
        refine r_iload_n C 3 3 dL_law_347 rfl rfl ?_
        refine r_iconst (v := (2 : Int32)) C dL_law_348 rfl ?_
        refine r_iadd C dL_law_349 ?_
        obtain ⟨h68, hF⟩ := ck_e hF
        refine r_scr C hN hxs ((v3 + (2 : Int32)).toNatClampNeg) dL_law_350 h68 rfl ?_
        obtain ⟨r70, σ69, e71, hF⟩ := bd_e hF
        refine r_callV_i (as := [vI (xs ((v3 + (1 : Int32)).toNatClampNeg)), vI (xs ((v3 + (2 : Int32)).toNatClampNeg))]) (st := []) C dL_law_351 (s_X10_put G l e71) rfl rfl rfl t_3_125 t_3_126 t_3_127 t_1_1 t_3_128 m_X10_put ⟨Nat.le_of_ble_eq_true rfl, Nat.le_of_ble_eq_true rfl⟩ ⟨rfl, rfl⟩ ⟨hcl, hsl⟩ rfl (Nat.le_of_ble_eq_true rfl) ?_
        refine r_aload_n C 2 2 dL_law_354 rfl rfl ?_
        refine r_aload_n C 0 0 dL_law_355 rfl rfl ?_
        refine r_iload_n C 3 3 dL_law_356 rfl rfl ?_
        refine r_iconst (v := (1 : Int32)) C dL_law_357 rfl ?_
        refine r_iadd C dL_law_358 ?_
        obtain ⟨h72, hF⟩ := ck_e hF
        refine r_scr C hN hxs ((v3 + (1 : Int32)).toNatClampNeg) dL_law_359 h72 rfl ?_
        refine r_aload_n C 0 0 dL_law_360 rfl rfl ?_
        refine r_iload_n C 3 3 dL_law_361 rfl rfl ?_
        refine r_iconst (v := (2 : Int32)) C dL_law_362 rfl ?_
        refine r_iadd C dL_law_363 ?_
        obtain ⟨h73, hF⟩ := ck_e hF
        refine r_scr C hN hxs ((v3 + (2 : Int32)).toNatClampNeg) dL_law_364 h73 rfl ?_
        obtain ⟨r75, σ74, e76, hF⟩ := bd_e hF
        refine r_callV_i (as := [vI (xs ((v3 + (1 : Int32)).toNatClampNeg)), vI (xs ((v3 + (2 : Int32)).toNatClampNeg))]) (st := [vI r70]) C dL_law_365 (s_X11_put G l e76) rfl rfl rfl t_5_227 t_5_228 t_5_229 t_1_14 t_5_230 m_X11_put ⟨Nat.le_of_ble_eq_true rfl, Nat.le_of_ble_eq_true rfl⟩ ⟨rfl, rfl⟩ ⟨hcl, hsl⟩ rfl (Nat.le_of_ble_eq_true rfl) ?_
        refine r_icmp_eq C 1486 dL_law_368 (by decide)  (fun h78 => ?_) (fun h78 => ?_)
        · have hF := if_t h78 hF
          obtain ⟨x77, ex77, hF⟩ := nam_e hF
          refine r_iinc (v := x77) (ls2 := [(3, vI x77), (0, vR (110, 0, 0)), (1, vR (0, 0, 0)), (2, vR (40, 0, 0))]) C 3 dL_law_1486 rfl ex77.symm (by decide) rfl ?_
          refine r_goto C 18 dL_law_1489 (by decide) ?_
          refine r_drop (ls2 := [(0, vR (110, 0, 0)), (1, vR (0, 0, 0)), (2, vR (40, 0, 0)), (3, vI x77)]) [1, 2, 3, 0] rfl ?_
          exact ih _ _ hF
        · have hF := if_f h78 hF
          refine r_iconst (v := (0 : Int32)) C dL_law_371 rfl ?_
          exact absurd (rt_e hF).1 (by decide)
      have hF := if_f h66 hF
      by_cases h79 : ((xs (v3.toNatClampNeg)) &&& (63 : Int32)) = (7 : Int32)
      · have hF := if_t h79 hF
        refine r_tabIn (off := 340) C 373 dL_law_33 (by rw [h79]; decide) (by rw [h79]; decide) (by rw [h79]; rfl) (by decide) ?_
        refine r_aload_n C 1 1 dL_law_373 rfl rfl ?_
        refine r_aload_n C 0 0 dL_law_374 rfl rfl ?_
        refine r_iload_n C 3 3 dL_law_375 rfl rfl ?_
        refine r_iconst (v := (1 : Int32)) C dL_law_376 rfl ?_
        refine r_iadd C dL_law_377 ?_
        obtain ⟨h80, hF⟩ := ck_e hF
        refine r_scr C hN hxs ((v3 + (1 : Int32)).toNatClampNeg) dL_law_378 h80 rfl ?_
        obtain ⟨r82, σ81, e83, hF⟩ := bd_e hF
        refine r_callV_i (as := [vI (xs ((v3 + (1 : Int32)).toNatClampNeg))]) (st := []) C dL_law_379 (s_X10_heat G l e83) rfl rfl rfl t_3_133 t_3_134 t_3_135 t_1_1 t_3_136 m_X10_heat ⟨Nat.le_of_ble_eq_true rfl, Nat.le_of_ble_eq_true rfl⟩ ⟨rfl, rfl⟩ ⟨hcl, hsl⟩ rfl (Nat.le_of_ble_eq_true rfl) ?_
        refine r_aload_n C 2 2 dL_law_382 rfl rfl ?_
        refine r_aload_n C 0 0 dL_law_383 rfl rfl ?_
        refine r_iload_n C 3 3 dL_law_384 rfl rfl ?_
        refine r_iconst (v := (1 : Int32)) C dL_law_385 rfl ?_
        refine r_iadd C dL_law_386 ?_
        obtain ⟨h84, hF⟩ := ck_e hF
        refine r_scr C hN hxs ((v3 + (1 : Int32)).toNatClampNeg) dL_law_387 h84 rfl ?_
        obtain ⟨r86, σ85, e87, hF⟩ := bd_e hF
        refine r_callV_i (as := [vI (xs ((v3 + (1 : Int32)).toNatClampNeg))]) (st := [vI r82]) C dL_law_388 (s_X11_heat G l e87) rfl rfl rfl t_6_3 t_6_4 t_6_5 t_1_14 t_6_6 m_X11_heat ⟨Nat.le_of_ble_eq_true rfl, Nat.le_of_ble_eq_true rfl⟩ ⟨rfl, rfl⟩ ⟨hcl, hsl⟩ rfl (Nat.le_of_ble_eq_true rfl) ?_
        refine r_icmp_eq C 1486 dL_law_391 (by decide)  (fun h89 => ?_) (fun h89 => ?_)
        · have hF := if_t h89 hF
          obtain ⟨x88, ex88, hF⟩ := nam_e hF
          refine r_iinc (v := x88) (ls2 := [(3, vI x88), (0, vR (110, 0, 0)), (1, vR (0, 0, 0)), (2, vR (40, 0, 0))]) C 3 dL_law_1486 rfl ex88.symm (by decide) rfl ?_
          refine r_goto C 18 dL_law_1489 (by decide) ?_
          refine r_drop (ls2 := [(0, vR (110, 0, 0)), (1, vR (0, 0, 0)), (2, vR (40, 0, 0)), (3, vI x88)]) [1, 2, 3, 0] rfl ?_
          exact ih _ _ hF
        · have hF := if_f h89 hF
          refine r_iconst (v := (0 : Int32)) C dL_law_394 rfl ?_
          exact absurd (rt_e hF).1 (by decide)
      have hF := if_f h79 hF
      by_cases h90 : ((xs (v3.toNatClampNeg)) &&& (63 : Int32)) = (8 : Int32)
      · have hF := if_t h90 hF
        refine r_tabIn (off := 363) C 396 dL_law_33 (by rw [h90]; decide) (by rw [h90]; decide) (by rw [h90]; rfl) (by decide) ?_
        refine r_aload_n C 1 1 dL_law_396 rfl rfl ?_
        refine r_aload_n C 0 0 dL_law_397 rfl rfl ?_
        refine r_iload_n C 3 3 dL_law_398 rfl rfl ?_
        refine r_iconst (v := (1 : Int32)) C dL_law_399 rfl ?_
        refine r_iadd C dL_law_400 ?_
        obtain ⟨h91, hF⟩ := ck_e hF
        refine r_scr C hN hxs ((v3 + (1 : Int32)).toNatClampNeg) dL_law_401 h91 rfl ?_
        refine r_aload_n C 0 0 dL_law_402 rfl rfl ?_
        refine r_iload_n C 3 3 dL_law_403 rfl rfl ?_
        refine r_iconst (v := (2 : Int32)) C dL_law_404 rfl ?_
        refine r_iadd C dL_law_405 ?_
        obtain ⟨h92, hF⟩ := ck_e hF
        refine r_scr C hN hxs ((v3 + (2 : Int32)).toNatClampNeg) dL_law_406 h92 rfl ?_
        refine r_aload_n C 0 0 dL_law_407 rfl rfl ?_
        refine r_iload_n C 3 3 dL_law_408 rfl rfl ?_
        refine r_iconst (v := (3 : Int32)) C dL_law_409 rfl ?_
        refine r_iadd C dL_law_410 ?_
        obtain ⟨h93, hF⟩ := ck_e hF
        refine r_scr C hN hxs ((v3 + (3 : Int32)).toNatClampNeg) dL_law_411 h93 rfl ?_
        obtain ⟨r95, σ94, e96, hF⟩ := bd_e hF
        refine r_callV_i (as := [vI (xs ((v3 + (1 : Int32)).toNatClampNeg)), vI (xs ((v3 + (2 : Int32)).toNatClampNeg)), vI (xs ((v3 + (3 : Int32)).toNatClampNeg))]) (st := []) C dL_law_412 (s_X10_drop G l e96) rfl rfl rfl t_3_144 t_3_145 t_3_146 t_1_1 t_3_147 m_X10_drop ⟨Nat.le_of_ble_eq_true rfl, Nat.le_of_ble_eq_true rfl⟩ ⟨rfl, rfl⟩ ⟨hcl, hsl⟩ rfl (Nat.le_of_ble_eq_true rfl) ?_
        refine r_aload_n C 2 2 dL_law_415 rfl rfl ?_
        refine r_aload_n C 0 0 dL_law_416 rfl rfl ?_
        refine r_iload_n C 3 3 dL_law_417 rfl rfl ?_
        refine r_iconst (v := (1 : Int32)) C dL_law_418 rfl ?_
        refine r_iadd C dL_law_419 ?_
        obtain ⟨h97, hF⟩ := ck_e hF
        refine r_scr C hN hxs ((v3 + (1 : Int32)).toNatClampNeg) dL_law_420 h97 rfl ?_
        refine r_aload_n C 0 0 dL_law_421 rfl rfl ?_
        refine r_iload_n C 3 3 dL_law_422 rfl rfl ?_
        refine r_iconst (v := (2 : Int32)) C dL_law_423 rfl ?_
        refine r_iadd C dL_law_424 ?_
        obtain ⟨h98, hF⟩ := ck_e hF
        refine r_scr C hN hxs ((v3 + (2 : Int32)).toNatClampNeg) dL_law_425 h98 rfl ?_
        refine r_aload_n C 0 0 dL_law_426 rfl rfl ?_
        refine r_iload_n C 3 3 dL_law_427 rfl rfl ?_
        refine r_iconst (v := (3 : Int32)) C dL_law_428 rfl ?_
        refine r_iadd C dL_law_429 ?_
        obtain ⟨h99, hF⟩ := ck_e hF
        refine r_scr C hN hxs ((v3 + (3 : Int32)).toNatClampNeg) dL_law_430 h99 rfl ?_
        obtain ⟨r101, σ100, e102, hF⟩ := bd_e hF
        refine r_callV_i (as := [vI (xs ((v3 + (1 : Int32)).toNatClampNeg)), vI (xs ((v3 + (2 : Int32)).toNatClampNeg)), vI (xs ((v3 + (3 : Int32)).toNatClampNeg))]) (st := [vI r95]) C dL_law_431 (s_X11_drop G l e102) rfl rfl rfl t_6_8 t_6_9 t_6_10 t_1_14 t_6_11 m_X11_drop ⟨Nat.le_of_ble_eq_true rfl, Nat.le_of_ble_eq_true rfl⟩ ⟨rfl, rfl⟩ ⟨hcl, hsl⟩ rfl (Nat.le_of_ble_eq_true rfl) ?_
        refine r_icmp_eq C 1486 dL_law_434 (by decide)  (fun h104 => ?_) (fun h104 => ?_)
        · have hF := if_t h104 hF
          obtain ⟨x103, ex103, hF⟩ := nam_e hF
          refine r_iinc (v := x103) (ls2 := [(3, vI x103), (0, vR (110, 0, 0)), (1, vR (0, 0, 0)), (2, vR (40, 0, 0))]) C 3 dL_law_1486 rfl ex103.symm (by decide) rfl ?_
          refine r_goto C 18 dL_law_1489 (by decide) ?_
          refine r_drop (ls2 := [(0, vR (110, 0, 0)), (1, vR (0, 0, 0)), (2, vR (40, 0, 0)), (3, vI x103)]) [1, 2, 3, 0] rfl ?_
          exact ih _ _ hF
        · have hF := if_f h104 hF
          refine r_iconst (v := (0 : Int32)) C dL_law_437 rfl ?_
          exact absurd (rt_e hF).1 (by decide)
      have hF := if_f h90 hF
      by_cases h105 : ((xs (v3.toNatClampNeg)) &&& (63 : Int32)) = (9 : Int32)
      · have hF := if_t h105 hF
        refine r_tabIn (off := 406) C 439 dL_law_33 (by rw [h105]; decide) (by rw [h105]; decide) (by rw [h105]; rfl) (by decide) ?_
        refine r_aload_n C 1 1 dL_law_439 rfl rfl ?_
        refine r_aload_n C 0 0 dL_law_440 rfl rfl ?_
        refine r_iload_n C 3 3 dL_law_441 rfl rfl ?_
        refine r_iconst (v := (1 : Int32)) C dL_law_442 rfl ?_
        refine r_iadd C dL_law_443 ?_
        obtain ⟨h106, hF⟩ := ck_e hF
        refine r_scr C hN hxs ((v3 + (1 : Int32)).toNatClampNeg) dL_law_444 h106 rfl ?_
        obtain ⟨r108, σ107, e109, hF⟩ := bd_e hF
        refine r_callV_i (as := [vI (xs ((v3 + (1 : Int32)).toNatClampNeg))]) (st := []) C dL_law_445 (s_X10_go G l e109) rfl rfl rfl t_3_174 t_3_175 t_3_176 t_1_1 t_3_177 m_X10_go ⟨Nat.le_of_ble_eq_true rfl, Nat.le_of_ble_eq_true rfl⟩ ⟨rfl, rfl⟩ ⟨hcl, hsl⟩ rfl (Nat.le_of_ble_eq_true rfl) ?_
        refine r_aload_n C 2 2 dL_law_448 rfl rfl ?_
        refine r_aload_n C 0 0 dL_law_449 rfl rfl ?_
        refine r_iload_n C 3 3 dL_law_450 rfl rfl ?_
        refine r_iconst (v := (1 : Int32)) C dL_law_451 rfl ?_
        refine r_iadd C dL_law_452 ?_
        obtain ⟨h110, hF⟩ := ck_e hF
        refine r_scr C hN hxs ((v3 + (1 : Int32)).toNatClampNeg) dL_law_453 h110 rfl ?_
        obtain ⟨r112, σ111, e113, hF⟩ := bd_e hF
        refine r_callV_i (as := [vI (xs ((v3 + (1 : Int32)).toNatClampNeg))]) (st := [vI r108]) C dL_law_454 (s_X11_go G l e113) rfl rfl rfl t_6_17 t_6_18 t_6_19 t_1_14 t_6_20 m_X11_go ⟨Nat.le_of_ble_eq_true rfl, Nat.le_of_ble_eq_true rfl⟩ ⟨rfl, rfl⟩ ⟨hcl, hsl⟩ rfl (Nat.le_of_ble_eq_true rfl) ?_
        refine r_icmp_eq C 1486 dL_law_457 (by decide)  (fun h115 => ?_) (fun h115 => ?_)
        · have hF := if_t h115 hF
          obtain ⟨x114, ex114, hF⟩ := nam_e hF
          refine r_iinc (v := x114) (ls2 := [(3, vI x114), (0, vR (110, 0, 0)), (1, vR (0, 0, 0)), (2, vR (40, 0, 0))]) C 3 dL_law_1486 rfl ex114.symm (by decide) rfl ?_
          refine r_goto C 18 dL_law_1489 (by decide) ?_
          refine r_drop (ls2 := [(0, vR (110, 0, 0)), (1, vR (0, 0, 0)), (2, vR (40, 0, 0)), (3, vI x114)]) [1, 2, 3, 0] rfl ?_
          exact ih _ _ hF
        · have hF := if_f h115 hF
          refine r_iconst (v := (0 : Int32)) C dL_law_460 rfl ?_
          exact absurd (rt_e hF).1 (by decide)
      have hF := if_f h105 hF
      by_cases h116 : ((xs (v3.toNatClampNeg)) &&& (63 : Int32)) = (10 : Int32)
      · have hF := if_t h116 hF
        refine r_tabIn (off := 429) C 462 dL_law_33 (by rw [h116]; decide) (by rw [h116]; decide) (by rw [h116]; rfl) (by decide) ?_
        refine r_aload_n C 1 1 dL_law_462 rfl rfl ?_
        refine r_aload_n C 0 0 dL_law_463 rfl rfl ?_
        refine r_iload_n C 3 3 dL_law_464 rfl rfl ?_
        refine r_iconst (v := (1 : Int32)) C dL_law_465 rfl ?_
        refine r_iadd C dL_law_466 ?_
        obtain ⟨h117, hF⟩ := ck_e hF
        refine r_scr C hN hxs ((v3 + (1 : Int32)).toNatClampNeg) dL_law_467 h117 rfl ?_
        obtain ⟨r119, σ118, e120, hF⟩ := bd_e hF
        refine r_callV_i (as := [vI (xs ((v3 + (1 : Int32)).toNatClampNeg))]) (st := []) C dL_law_468 (s_X10_seed G l e120) rfl rfl rfl t_4_3 t_4_4 t_4_5 t_1_1 t_4_6 m_X10_seed ⟨Nat.le_of_ble_eq_true rfl, Nat.le_of_ble_eq_true rfl⟩ ⟨rfl, rfl⟩ ⟨hcl, hsl⟩ rfl (Nat.le_of_ble_eq_true rfl) ?_
        refine r_aload_n C 2 2 dL_law_471 rfl rfl ?_
        refine r_aload_n C 0 0 dL_law_472 rfl rfl ?_
        refine r_iload_n C 3 3 dL_law_473 rfl rfl ?_
        refine r_iconst (v := (1 : Int32)) C dL_law_474 rfl ?_
        refine r_iadd C dL_law_475 ?_
        obtain ⟨h121, hF⟩ := ck_e hF
        refine r_scr C hN hxs ((v3 + (1 : Int32)).toNatClampNeg) dL_law_476 h121 rfl ?_
        obtain ⟨r123, σ122, e124, hF⟩ := bd_e hF
        refine r_callV_i (as := [vI (xs ((v3 + (1 : Int32)).toNatClampNeg))]) (st := [vI r119]) C dL_law_477 (s_X11_seed G l e124) rfl rfl rfl t_6_74 t_6_75 t_6_76 t_1_14 t_6_77 m_X11_seed ⟨Nat.le_of_ble_eq_true rfl, Nat.le_of_ble_eq_true rfl⟩ ⟨rfl, rfl⟩ ⟨hcl, hsl⟩ rfl (Nat.le_of_ble_eq_true rfl) ?_
        refine r_icmp_eq C 1486 dL_law_480 (by decide)  (fun h126 => ?_) (fun h126 => ?_)
        · have hF := if_t h126 hF
          obtain ⟨x125, ex125, hF⟩ := nam_e hF
          refine r_iinc (v := x125) (ls2 := [(3, vI x125), (0, vR (110, 0, 0)), (1, vR (0, 0, 0)), (2, vR (40, 0, 0))]) C 3 dL_law_1486 rfl ex125.symm (by decide) rfl ?_
          refine r_goto C 18 dL_law_1489 (by decide) ?_
          refine r_drop (ls2 := [(0, vR (110, 0, 0)), (1, vR (0, 0, 0)), (2, vR (40, 0, 0)), (3, vI x125)]) [1, 2, 3, 0] rfl ?_
          exact ih _ _ hF
        · have hF := if_f h126 hF
          refine r_iconst (v := (0 : Int32)) C dL_law_483 rfl ?_
          exact absurd (rt_e hF).1 (by decide)
      have hF := if_f h116 hF
      by_cases h127 : ((xs (v3.toNatClampNeg)) &&& (63 : Int32)) = (11 : Int32)
      · have hF := if_t h127 hF
        refine r_tabIn (off := 452) C 485 dL_law_33 (by rw [h127]; decide) (by rw [h127]; decide) (by rw [h127]; rfl) (by decide) ?_
        refine r_aload_n C 1 1 dL_law_485 rfl rfl ?_
        refine r_aload_n C 0 0 dL_law_486 rfl rfl ?_
        refine r_iload_n C 3 3 dL_law_487 rfl rfl ?_
        refine r_iconst (v := (1 : Int32)) C dL_law_488 rfl ?_
        refine r_iadd C dL_law_489 ?_
        obtain ⟨h128, hF⟩ := ck_e hF
        refine r_scr C hN hxs ((v3 + (1 : Int32)).toNatClampNeg) dL_law_490 h128 rfl ?_
        refine r_aload_n C 0 0 dL_law_491 rfl rfl ?_
        refine r_iload_n C 3 3 dL_law_492 rfl rfl ?_
        refine r_iconst (v := (2 : Int32)) C dL_law_493 rfl ?_
        refine r_iadd C dL_law_494 ?_
        obtain ⟨h129, hF⟩ := ck_e hF
        refine r_scr C hN hxs ((v3 + (2 : Int32)).toNatClampNeg) dL_law_495 h129 rfl ?_
        obtain ⟨r131, σ130, e132, hF⟩ := bd_e hF
        refine r_callV_i (as := [vI (xs ((v3 + (1 : Int32)).toNatClampNeg)), vI (xs ((v3 + (2 : Int32)).toNatClampNeg))]) (st := []) C dL_law_496 (s_X10_of G l e132) rfl rfl rfl t_4_7 t_4_8 t_4_9 t_1_1 t_4_10 m_X10_of ⟨Nat.le_of_ble_eq_true rfl, Nat.le_of_ble_eq_true rfl⟩ ⟨rfl, rfl⟩ ⟨hcl, hsl⟩ rfl (Nat.le_of_ble_eq_true rfl) ?_
        refine r_aload_n C 2 2 dL_law_499 rfl rfl ?_
        refine r_aload_n C 0 0 dL_law_500 rfl rfl ?_
        refine r_iload_n C 3 3 dL_law_501 rfl rfl ?_
        refine r_iconst (v := (1 : Int32)) C dL_law_502 rfl ?_
        refine r_iadd C dL_law_503 ?_
        obtain ⟨h133, hF⟩ := ck_e hF
        refine r_scr C hN hxs ((v3 + (1 : Int32)).toNatClampNeg) dL_law_504 h133 rfl ?_
        refine r_aload_n C 0 0 dL_law_505 rfl rfl ?_
        refine r_iload_n C 3 3 dL_law_506 rfl rfl ?_
        refine r_iconst (v := (2 : Int32)) C dL_law_507 rfl ?_
        refine r_iadd C dL_law_508 ?_
        obtain ⟨h134, hF⟩ := ck_e hF
        refine r_scr C hN hxs ((v3 + (2 : Int32)).toNatClampNeg) dL_law_509 h134 rfl ?_
        obtain ⟨r136, σ135, e137, hF⟩ := bd_e hF
        refine r_callV_i (as := [vI (xs ((v3 + (1 : Int32)).toNatClampNeg)), vI (xs ((v3 + (2 : Int32)).toNatClampNeg))]) (st := [vI r131]) C dL_law_510 (s_X11_of G l e137) rfl rfl rfl t_6_78 t_6_79 t_6_80 t_1_14 t_6_81 m_X11_of ⟨Nat.le_of_ble_eq_true rfl, Nat.le_of_ble_eq_true rfl⟩ ⟨rfl, rfl⟩ ⟨hcl, hsl⟩ rfl (Nat.le_of_ble_eq_true rfl) ?_
        refine r_icmp_eq C 1486 dL_law_513 (by decide)  (fun h139 => ?_) (fun h139 => ?_)
        · have hF := if_t h139 hF
          obtain ⟨x138, ex138, hF⟩ := nam_e hF
          refine r_iinc (v := x138) (ls2 := [(3, vI x138), (0, vR (110, 0, 0)), (1, vR (0, 0, 0)), (2, vR (40, 0, 0))]) C 3 dL_law_1486 rfl ex138.symm (by decide) rfl ?_
          refine r_goto C 18 dL_law_1489 (by decide) ?_
          refine r_drop (ls2 := [(0, vR (110, 0, 0)), (1, vR (0, 0, 0)), (2, vR (40, 0, 0)), (3, vI x138)]) [1, 2, 3, 0] rfl ?_
          exact ih _ _ hF
        · have hF := if_f h139 hF
          refine r_iconst (v := (0 : Int32)) C dL_law_516 rfl ?_
          exact absurd (rt_e hF).1 (by decide)
      have hF := if_f h127 hF
      by_cases h140 : ((xs (v3.toNatClampNeg)) &&& (63 : Int32)) = (12 : Int32)
      · have hF := if_t h140 hF
        refine r_tabIn (off := 485) C 518 dL_law_33 (by rw [h140]; decide) (by rw [h140]; decide) (by rw [h140]; rfl) (by decide) ?_
        refine r_aload_n C 1 1 dL_law_518 rfl rfl ?_
        refine r_aload_n C 0 0 dL_law_519 rfl rfl ?_
        refine r_iload_n C 3 3 dL_law_520 rfl rfl ?_
        refine r_iconst (v := (1 : Int32)) C dL_law_521 rfl ?_
        refine r_iadd C dL_law_522 ?_
        obtain ⟨h141, hF⟩ := ck_e hF
        refine r_scr C hN hxs ((v3 + (1 : Int32)).toNatClampNeg) dL_law_523 h141 rfl ?_
        obtain ⟨r143, σ142, e144, hF⟩ := bd_e hF
        refine r_callV_i (as := [vI (xs ((v3 + (1 : Int32)).toNatClampNeg))]) (st := []) C dL_law_524 (s_X10_at G l e144) rfl rfl rfl t_4_15 t_4_16 t_4_17 t_1_1 t_4_18 m_X10_at ⟨Nat.le_of_ble_eq_true rfl, Nat.le_of_ble_eq_true rfl⟩ ⟨rfl, rfl⟩ ⟨hcl, hsl⟩ rfl (Nat.le_of_ble_eq_true rfl) ?_
        refine r_aload_n C 2 2 dL_law_527 rfl rfl ?_
        refine r_aload_n C 0 0 dL_law_528 rfl rfl ?_
        refine r_iload_n C 3 3 dL_law_529 rfl rfl ?_
        refine r_iconst (v := (1 : Int32)) C dL_law_530 rfl ?_
        refine r_iadd C dL_law_531 ?_
        obtain ⟨h145, hF⟩ := ck_e hF
        refine r_scr C hN hxs ((v3 + (1 : Int32)).toNatClampNeg) dL_law_532 h145 rfl ?_
        obtain ⟨r147, σ146, e148, hF⟩ := bd_e hF
        refine r_callV_i (as := [vI (xs ((v3 + (1 : Int32)).toNatClampNeg))]) (st := [vI r143]) C dL_law_533 (s_X11_at G l e148) rfl rfl rfl t_6_82 t_6_83 t_6_84 t_1_14 t_6_85 m_X11_at ⟨Nat.le_of_ble_eq_true rfl, Nat.le_of_ble_eq_true rfl⟩ ⟨rfl, rfl⟩ ⟨hcl, hsl⟩ rfl (Nat.le_of_ble_eq_true rfl) ?_
        refine r_icmp_eq C 1486 dL_law_536 (by decide)  (fun h150 => ?_) (fun h150 => ?_)
        · have hF := if_t h150 hF
          obtain ⟨x149, ex149, hF⟩ := nam_e hF
          refine r_iinc (v := x149) (ls2 := [(3, vI x149), (0, vR (110, 0, 0)), (1, vR (0, 0, 0)), (2, vR (40, 0, 0))]) C 3 dL_law_1486 rfl ex149.symm (by decide) rfl ?_
          refine r_goto C 18 dL_law_1489 (by decide) ?_
          refine r_drop (ls2 := [(0, vR (110, 0, 0)), (1, vR (0, 0, 0)), (2, vR (40, 0, 0)), (3, vI x149)]) [1, 2, 3, 0] rfl ?_
          exact ih _ _ hF
        · have hF := if_f h150 hF
          refine r_iconst (v := (0 : Int32)) C dL_law_539 rfl ?_
          exact absurd (rt_e hF).1 (by decide)
      have hF := if_f h140 hF
      by_cases h151 : ((xs (v3.toNatClampNeg)) &&& (63 : Int32)) = (13 : Int32)
      · have hF := if_t h151 hF
        refine r_tabIn (off := 508) C 541 dL_law_33 (by rw [h151]; decide) (by rw [h151]; decide) (by rw [h151]; rfl) (by decide) ?_
        refine r_aload_n C 1 1 dL_law_541 rfl rfl ?_
        refine r_aload_n C 0 0 dL_law_542 rfl rfl ?_
        refine r_iload_n C 3 3 dL_law_543 rfl rfl ?_
        refine r_iconst (v := (1 : Int32)) C dL_law_544 rfl ?_
        refine r_iadd C dL_law_545 ?_
        obtain ⟨h152, hF⟩ := ck_e hF
        refine r_scr C hN hxs ((v3 + (1 : Int32)).toNatClampNeg) dL_law_546 h152 rfl ?_
        obtain ⟨r154, σ153, e155, hF⟩ := bd_e hF
        refine r_callV_i (as := [vI (xs ((v3 + (1 : Int32)).toNatClampNeg))]) (st := []) C dL_law_547 (s_X10_now G l e155) rfl rfl rfl t_4_19 t_4_20 t_4_21 t_1_1 t_4_22 m_X10_now ⟨Nat.le_of_ble_eq_true rfl, Nat.le_of_ble_eq_true rfl⟩ ⟨rfl, rfl⟩ ⟨hcl, hsl⟩ rfl (Nat.le_of_ble_eq_true rfl) ?_
        refine r_aload_n C 2 2 dL_law_550 rfl rfl ?_
        refine r_aload_n C 0 0 dL_law_551 rfl rfl ?_
        refine r_iload_n C 3 3 dL_law_552 rfl rfl ?_
        refine r_iconst (v := (1 : Int32)) C dL_law_553 rfl ?_
        refine r_iadd C dL_law_554 ?_
        obtain ⟨h156, hF⟩ := ck_e hF
        refine r_scr C hN hxs ((v3 + (1 : Int32)).toNatClampNeg) dL_law_555 h156 rfl ?_
        obtain ⟨r158, σ157, e159, hF⟩ := bd_e hF
        refine r_callV_i (as := [vI (xs ((v3 + (1 : Int32)).toNatClampNeg))]) (st := [vI r154]) C dL_law_556 (s_X11_now G l e159) rfl rfl rfl t_6_86 t_6_87 t_6_88 t_1_14 t_6_89 m_X11_now ⟨Nat.le_of_ble_eq_true rfl, Nat.le_of_ble_eq_true rfl⟩ ⟨rfl, rfl⟩ ⟨hcl, hsl⟩ rfl (Nat.le_of_ble_eq_true rfl) ?_
        refine r_icmp_eq C 1486 dL_law_559 (by decide)  (fun h161 => ?_) (fun h161 => ?_)
        · have hF := if_t h161 hF
          obtain ⟨x160, ex160, hF⟩ := nam_e hF
          refine r_iinc (v := x160) (ls2 := [(3, vI x160), (0, vR (110, 0, 0)), (1, vR (0, 0, 0)), (2, vR (40, 0, 0))]) C 3 dL_law_1486 rfl ex160.symm (by decide) rfl ?_
          refine r_goto C 18 dL_law_1489 (by decide) ?_
          refine r_drop (ls2 := [(0, vR (110, 0, 0)), (1, vR (0, 0, 0)), (2, vR (40, 0, 0)), (3, vI x160)]) [1, 2, 3, 0] rfl ?_
          exact ih _ _ hF
        · have hF := if_f h161 hF
          refine r_iconst (v := (0 : Int32)) C dL_law_562 rfl ?_
          exact absurd (rt_e hF).1 (by decide)
      have hF := if_f h151 hF
      by_cases h162 : ((xs (v3.toNatClampNeg)) &&& (63 : Int32)) = (14 : Int32)
      · have hF := if_t h162 hF
        refine r_tabIn (off := 531) C 564 dL_law_33 (by rw [h162]; decide) (by rw [h162]; decide) (by rw [h162]; rfl) (by decide) ?_
        refine r_aload_n C 1 1 dL_law_564 rfl rfl ?_
        refine r_aload_n C 0 0 dL_law_565 rfl rfl ?_
        refine r_iload_n C 3 3 dL_law_566 rfl rfl ?_
        refine r_iconst (v := (1 : Int32)) C dL_law_567 rfl ?_
        refine r_iadd C dL_law_568 ?_
        obtain ⟨h163, hF⟩ := ck_e hF
        refine r_scr C hN hxs ((v3 + (1 : Int32)).toNatClampNeg) dL_law_569 h163 rfl ?_
        obtain ⟨r165, σ164, e166, hF⟩ := bd_e hF
        refine r_callV_i (as := [vI (xs ((v3 + (1 : Int32)).toNatClampNeg))]) (st := []) C dL_law_570 (s_X10_points G l e166) rfl rfl rfl t_4_27 t_4_28 t_4_29 t_1_1 t_4_30 m_X10_points ⟨Nat.le_of_ble_eq_true rfl, Nat.le_of_ble_eq_true rfl⟩ ⟨rfl, rfl⟩ ⟨hcl, hsl⟩ rfl (Nat.le_of_ble_eq_true rfl) ?_
        refine r_aload_n C 2 2 dL_law_573 rfl rfl ?_
        refine r_aload_n C 0 0 dL_law_574 rfl rfl ?_
        refine r_iload_n C 3 3 dL_law_575 rfl rfl ?_
        refine r_iconst (v := (1 : Int32)) C dL_law_576 rfl ?_
        refine r_iadd C dL_law_577 ?_
        obtain ⟨h167, hF⟩ := ck_e hF
        refine r_scr C hN hxs ((v3 + (1 : Int32)).toNatClampNeg) dL_law_578 h167 rfl ?_
        obtain ⟨r169, σ168, e170, hF⟩ := bd_e hF
        refine r_callV_i (as := [vI (xs ((v3 + (1 : Int32)).toNatClampNeg))]) (st := [vI r165]) C dL_law_579 (s_X11_points G l e170) rfl rfl rfl t_6_90 t_6_91 t_6_92 t_1_14 t_6_93 m_X11_points ⟨Nat.le_of_ble_eq_true rfl, Nat.le_of_ble_eq_true rfl⟩ ⟨rfl, rfl⟩ ⟨hcl, hsl⟩ rfl (Nat.le_of_ble_eq_true rfl) ?_
        refine r_icmp_eq C 1486 dL_law_582 (by decide)  (fun h172 => ?_) (fun h172 => ?_)
        · have hF := if_t h172 hF
          obtain ⟨x171, ex171, hF⟩ := nam_e hF
          refine r_iinc (v := x171) (ls2 := [(3, vI x171), (0, vR (110, 0, 0)), (1, vR (0, 0, 0)), (2, vR (40, 0, 0))]) C 3 dL_law_1486 rfl ex171.symm (by decide) rfl ?_
          refine r_goto C 18 dL_law_1489 (by decide) ?_
          refine r_drop (ls2 := [(0, vR (110, 0, 0)), (1, vR (0, 0, 0)), (2, vR (40, 0, 0)), (3, vI x171)]) [1, 2, 3, 0] rfl ?_
          exact ih _ _ hF
        · have hF := if_f h172 hF
          refine r_iconst (v := (0 : Int32)) C dL_law_585 rfl ?_
          exact absurd (rt_e hF).1 (by decide)
      have hF := if_f h162 hF
      by_cases h173 : ((xs (v3.toNatClampNeg)) &&& (63 : Int32)) = (15 : Int32)
      · have hF := if_t h173 hF
        refine r_tabIn (off := 554) C 587 dL_law_33 (by rw [h173]; decide) (by rw [h173]; decide) (by rw [h173]; rfl) (by decide) ?_
        refine r_aload_n C 1 1 dL_law_587 rfl rfl ?_
        refine r_aload_n C 0 0 dL_law_588 rfl rfl ?_
        refine r_iload_n C 3 3 dL_law_589 rfl rfl ?_
        refine r_iconst (v := (1 : Int32)) C dL_law_590 rfl ?_
        refine r_iadd C dL_law_591 ?_
        obtain ⟨h174, hF⟩ := ck_e hF
        refine r_scr C hN hxs ((v3 + (1 : Int32)).toNatClampNeg) dL_law_592 h174 rfl ?_
        obtain ⟨r176, σ175, e177, hF⟩ := bd_e hF
        refine r_callV_i (as := [vI (xs ((v3 + (1 : Int32)).toNatClampNeg))]) (st := []) C dL_law_593 (s_X10_keep G l e177) rfl rfl rfl t_4_33 t_4_34 t_4_35 t_1_1 t_4_36 m_X10_keep ⟨Nat.le_of_ble_eq_true rfl, Nat.le_of_ble_eq_true rfl⟩ ⟨rfl, rfl⟩ ⟨hcl, hsl⟩ rfl (Nat.le_of_ble_eq_true rfl) ?_
        refine r_aload_n C 2 2 dL_law_596 rfl rfl ?_
        refine r_aload_n C 0 0 dL_law_597 rfl rfl ?_
        refine r_iload_n C 3 3 dL_law_598 rfl rfl ?_
        refine r_iconst (v := (1 : Int32)) C dL_law_599 rfl ?_
        refine r_iadd C dL_law_600 ?_
        obtain ⟨h178, hF⟩ := ck_e hF
        refine r_scr C hN hxs ((v3 + (1 : Int32)).toNatClampNeg) dL_law_601 h178 rfl ?_
        obtain ⟨r180, σ179, e181, hF⟩ := bd_e hF
        refine r_callV_i (as := [vI (xs ((v3 + (1 : Int32)).toNatClampNeg))]) (st := [vI r176]) C dL_law_602 (s_X11_keep G l e181) rfl rfl rfl t_6_94 t_6_95 t_6_96 t_1_14 t_6_97 m_X11_keep ⟨Nat.le_of_ble_eq_true rfl, Nat.le_of_ble_eq_true rfl⟩ ⟨rfl, rfl⟩ ⟨hcl, hsl⟩ rfl (Nat.le_of_ble_eq_true rfl) ?_
        refine r_icmp_eq C 1486 dL_law_605 (by decide)  (fun h183 => ?_) (fun h183 => ?_)
        · have hF := if_t h183 hF
          obtain ⟨x182, ex182, hF⟩ := nam_e hF
          refine r_iinc (v := x182) (ls2 := [(3, vI x182), (0, vR (110, 0, 0)), (1, vR (0, 0, 0)), (2, vR (40, 0, 0))]) C 3 dL_law_1486 rfl ex182.symm (by decide) rfl ?_
          refine r_goto C 18 dL_law_1489 (by decide) ?_
          refine r_drop (ls2 := [(0, vR (110, 0, 0)), (1, vR (0, 0, 0)), (2, vR (40, 0, 0)), (3, vI x182)]) [1, 2, 3, 0] rfl ?_
          exact ih _ _ hF
        · have hF := if_f h183 hF
          refine r_iconst (v := (0 : Int32)) C dL_law_608 rfl ?_
          exact absurd (rt_e hF).1 (by decide)
      have hF := if_f h173 hF
      by_cases h184 : ((xs (v3.toNatClampNeg)) &&& (63 : Int32)) = (16 : Int32)
      · have hF := if_t h184 hF
        refine r_tabIn (off := 577) C 610 dL_law_33 (by rw [h184]; decide) (by rw [h184]; decide) (by rw [h184]; rfl) (by decide) ?_
        refine r_aload_n C 1 1 dL_law_610 rfl rfl ?_
        refine r_aload_n C 0 0 dL_law_611 rfl rfl ?_
        refine r_iload_n C 3 3 dL_law_612 rfl rfl ?_
        refine r_iconst (v := (1 : Int32)) C dL_law_613 rfl ?_
        refine r_iadd C dL_law_614 ?_
        obtain ⟨h185, hF⟩ := ck_e hF
        refine r_scr C hN hxs ((v3 + (1 : Int32)).toNatClampNeg) dL_law_615 h185 rfl ?_
        obtain ⟨r187, σ186, e188, hF⟩ := bd_e hF
        refine r_callV_i (as := [vI (xs ((v3 + (1 : Int32)).toNatClampNeg))]) (st := []) C dL_law_616 (s_X10_back G l e188) rfl rfl rfl t_4_45 t_4_46 t_4_47 t_1_1 t_4_48 m_X10_back ⟨Nat.le_of_ble_eq_true rfl, Nat.le_of_ble_eq_true rfl⟩ ⟨rfl, rfl⟩ ⟨hcl, hsl⟩ rfl (Nat.le_of_ble_eq_true rfl) ?_
        refine r_aload_n C 2 2 dL_law_619 rfl rfl ?_
        refine r_aload_n C 0 0 dL_law_620 rfl rfl ?_
        refine r_iload_n C 3 3 dL_law_621 rfl rfl ?_
        refine r_iconst (v := (1 : Int32)) C dL_law_622 rfl ?_
        refine r_iadd C dL_law_623 ?_
        obtain ⟨h189, hF⟩ := ck_e hF
        refine r_scr C hN hxs ((v3 + (1 : Int32)).toNatClampNeg) dL_law_624 h189 rfl ?_
        obtain ⟨r191, σ190, e192, hF⟩ := bd_e hF
        refine r_callV_i (as := [vI (xs ((v3 + (1 : Int32)).toNatClampNeg))]) (st := [vI r187]) C dL_law_625 (s_X11_back G l e192) rfl rfl rfl t_6_102 t_6_103 t_6_104 t_1_14 t_6_105 m_X11_back ⟨Nat.le_of_ble_eq_true rfl, Nat.le_of_ble_eq_true rfl⟩ ⟨rfl, rfl⟩ ⟨hcl, hsl⟩ rfl (Nat.le_of_ble_eq_true rfl) ?_
        refine r_icmp_eq C 1486 dL_law_628 (by decide)  (fun h194 => ?_) (fun h194 => ?_)
        · have hF := if_t h194 hF
          obtain ⟨x193, ex193, hF⟩ := nam_e hF
          refine r_iinc (v := x193) (ls2 := [(3, vI x193), (0, vR (110, 0, 0)), (1, vR (0, 0, 0)), (2, vR (40, 0, 0))]) C 3 dL_law_1486 rfl ex193.symm (by decide) rfl ?_
          refine r_goto C 18 dL_law_1489 (by decide) ?_
          refine r_drop (ls2 := [(0, vR (110, 0, 0)), (1, vR (0, 0, 0)), (2, vR (40, 0, 0)), (3, vI x193)]) [1, 2, 3, 0] rfl ?_
          exact ih _ _ hF
        · have hF := if_f h194 hF
          refine r_iconst (v := (0 : Int32)) C dL_law_631 rfl ?_
          exact absurd (rt_e hF).1 (by decide)
      have hF := if_f h184 hF
      by_cases h195 : ((xs (v3.toNatClampNeg)) &&& (63 : Int32)) = (17 : Int32)
      · have hF := if_t h195 hF
        refine r_tabIn (off := 600) C 633 dL_law_33 (by rw [h195]; decide) (by rw [h195]; decide) (by rw [h195]; rfl) (by decide) ?_
        refine r_aload_n C 1 1 dL_law_633 rfl rfl ?_
        refine r_aload_n C 0 0 dL_law_634 rfl rfl ?_
        refine r_iload_n C 3 3 dL_law_635 rfl rfl ?_
        refine r_iconst (v := (1 : Int32)) C dL_law_636 rfl ?_
        refine r_iadd C dL_law_637 ?_
        obtain ⟨h196, hF⟩ := ck_e hF
        refine r_scr C hN hxs ((v3 + (1 : Int32)).toNatClampNeg) dL_law_638 h196 rfl ?_
        refine r_aload_n C 0 0 dL_law_639 rfl rfl ?_
        refine r_iload_n C 3 3 dL_law_640 rfl rfl ?_
        refine r_iconst (v := (2 : Int32)) C dL_law_641 rfl ?_
        refine r_iadd C dL_law_642 ?_
        obtain ⟨h197, hF⟩ := ck_e hF
        refine r_scr C hN hxs ((v3 + (2 : Int32)).toNatClampNeg) dL_law_643 h197 rfl ?_
        refine r_aload_n C 0 0 dL_law_644 rfl rfl ?_
        refine r_iload_n C 3 3 dL_law_645 rfl rfl ?_
        refine r_iconst (v := (3 : Int32)) C dL_law_646 rfl ?_
        refine r_iadd C dL_law_647 ?_
        obtain ⟨h198, hF⟩ := ck_e hF
        refine r_scr C hN hxs ((v3 + (3 : Int32)).toNatClampNeg) dL_law_648 h198 rfl ?_
        refine r_aload_n C 0 0 dL_law_649 rfl rfl ?_
        refine r_iload_n C 3 3 dL_law_650 rfl rfl ?_
        refine r_iconst (v := (4 : Int32)) C dL_law_651 rfl ?_
        refine r_iadd C dL_law_652 ?_
        obtain ⟨h199, hF⟩ := ck_e hF
        refine r_scr C hN hxs ((v3 + (4 : Int32)).toNatClampNeg) dL_law_653 h199 rfl ?_
        refine r_aload_n C 0 0 dL_law_654 rfl rfl ?_
        refine r_iload_n C 3 3 dL_law_655 rfl rfl ?_
        refine r_iconst (v := (5 : Int32)) C dL_law_656 rfl ?_
        refine r_iadd C dL_law_657 ?_
        obtain ⟨h200, hF⟩ := ck_e hF
        refine r_scr C hN hxs ((v3 + (5 : Int32)).toNatClampNeg) dL_law_658 h200 rfl ?_
        obtain ⟨r202, σ201, e203, hF⟩ := bd_e hF
        refine r_callV_i (as := [vI (xs ((v3 + (1 : Int32)).toNatClampNeg)), vI (xs ((v3 + (2 : Int32)).toNatClampNeg)), vI (xs ((v3 + (3 : Int32)).toNatClampNeg)), vI (xs ((v3 + (4 : Int32)).toNatClampNeg)), vI (xs ((v3 + (5 : Int32)).toNatClampNeg))]) (st := []) C dL_law_659 (s_X10_alone G l e203) rfl rfl rfl t_4_49 t_4_50 t_4_51 t_1_1 t_4_52 m_X10_alone ⟨Nat.le_of_ble_eq_true rfl, Nat.le_of_ble_eq_true rfl⟩ ⟨rfl, rfl⟩ ⟨hcl, hsl⟩ rfl (Nat.le_of_ble_eq_true rfl) ?_
        refine r_aload_n C 2 2 dL_law_662 rfl rfl ?_
        refine r_aload_n C 0 0 dL_law_663 rfl rfl ?_
        refine r_iload_n C 3 3 dL_law_664 rfl rfl ?_
        refine r_iconst (v := (1 : Int32)) C dL_law_665 rfl ?_
        refine r_iadd C dL_law_666 ?_
        obtain ⟨h204, hF⟩ := ck_e hF
        refine r_scr C hN hxs ((v3 + (1 : Int32)).toNatClampNeg) dL_law_667 h204 rfl ?_
        refine r_aload_n C 0 0 dL_law_668 rfl rfl ?_
        refine r_iload_n C 3 3 dL_law_669 rfl rfl ?_
        refine r_iconst (v := (2 : Int32)) C dL_law_670 rfl ?_
        refine r_iadd C dL_law_671 ?_
        obtain ⟨h205, hF⟩ := ck_e hF
        refine r_scr C hN hxs ((v3 + (2 : Int32)).toNatClampNeg) dL_law_672 h205 rfl ?_
        refine r_aload_n C 0 0 dL_law_673 rfl rfl ?_
        refine r_iload_n C 3 3 dL_law_674 rfl rfl ?_
        refine r_iconst (v := (3 : Int32)) C dL_law_675 rfl ?_
        refine r_iadd C dL_law_676 ?_
        obtain ⟨h206, hF⟩ := ck_e hF
        refine r_scr C hN hxs ((v3 + (3 : Int32)).toNatClampNeg) dL_law_677 h206 rfl ?_
        refine r_aload_n C 0 0 dL_law_678 rfl rfl ?_
        refine r_iload_n C 3 3 dL_law_679 rfl rfl ?_
        refine r_iconst (v := (4 : Int32)) C dL_law_680 rfl ?_
        refine r_iadd C dL_law_681 ?_
        obtain ⟨h207, hF⟩ := ck_e hF
        refine r_scr C hN hxs ((v3 + (4 : Int32)).toNatClampNeg) dL_law_682 h207 rfl ?_
        refine r_aload_n C 0 0 dL_law_683 rfl rfl ?_
        refine r_iload_n C 3 3 dL_law_684 rfl rfl ?_
        refine r_iconst (v := (5 : Int32)) C dL_law_685 rfl ?_
        refine r_iadd C dL_law_686 ?_
        obtain ⟨h208, hF⟩ := ck_e hF
        refine r_scr C hN hxs ((v3 + (5 : Int32)).toNatClampNeg) dL_law_687 h208 rfl ?_
        obtain ⟨r210, σ209, e211, hF⟩ := bd_e hF
        refine r_callV_i (as := [vI (xs ((v3 + (1 : Int32)).toNatClampNeg)), vI (xs ((v3 + (2 : Int32)).toNatClampNeg)), vI (xs ((v3 + (3 : Int32)).toNatClampNeg)), vI (xs ((v3 + (4 : Int32)).toNatClampNeg)), vI (xs ((v3 + (5 : Int32)).toNatClampNeg))]) (st := [vI r202]) C dL_law_688 (s_X11_alone G l e211) rfl rfl rfl t_6_106 t_6_107 t_6_108 t_1_14 t_6_109 m_X11_alone ⟨Nat.le_of_ble_eq_true rfl, Nat.le_of_ble_eq_true rfl⟩ ⟨rfl, rfl⟩ ⟨hcl, hsl⟩ rfl (Nat.le_of_ble_eq_true rfl) ?_
        refine r_icmp_eq C 1486 dL_law_691 (by decide)  (fun h213 => ?_) (fun h213 => ?_)
        · have hF := if_t h213 hF
          obtain ⟨x212, ex212, hF⟩ := nam_e hF
          refine r_iinc (v := x212) (ls2 := [(3, vI x212), (0, vR (110, 0, 0)), (1, vR (0, 0, 0)), (2, vR (40, 0, 0))]) C 3 dL_law_1486 rfl ex212.symm (by decide) rfl ?_
          refine r_goto C 18 dL_law_1489 (by decide) ?_
          refine r_drop (ls2 := [(0, vR (110, 0, 0)), (1, vR (0, 0, 0)), (2, vR (40, 0, 0)), (3, vI x212)]) [1, 2, 3, 0] rfl ?_
          exact ih _ _ hF
        · have hF := if_f h213 hF
          refine r_iconst (v := (0 : Int32)) C dL_law_694 rfl ?_
          exact absurd (rt_e hF).1 (by decide)
      have hF := if_f h195 hF
      by_cases h214 : ((xs (v3.toNatClampNeg)) &&& (63 : Int32)) = (18 : Int32)
      · have hF := if_t h214 hF
        refine r_tabIn (off := 663) C 696 dL_law_33 (by rw [h214]; decide) (by rw [h214]; decide) (by rw [h214]; rfl) (by decide) ?_
        refine r_aload_n C 1 1 dL_law_696 rfl rfl ?_
        refine r_aload_n C 0 0 dL_law_697 rfl rfl ?_
        refine r_iload_n C 3 3 dL_law_698 rfl rfl ?_
        refine r_iconst (v := (1 : Int32)) C dL_law_699 rfl ?_
        refine r_iadd C dL_law_700 ?_
        obtain ⟨h215, hF⟩ := ck_e hF
        refine r_scr C hN hxs ((v3 + (1 : Int32)).toNatClampNeg) dL_law_701 h215 rfl ?_
        refine r_aload_n C 0 0 dL_law_702 rfl rfl ?_
        refine r_iload_n C 3 3 dL_law_703 rfl rfl ?_
        refine r_iconst (v := (2 : Int32)) C dL_law_704 rfl ?_
        refine r_iadd C dL_law_705 ?_
        obtain ⟨h216, hF⟩ := ck_e hF
        refine r_scr C hN hxs ((v3 + (2 : Int32)).toNatClampNeg) dL_law_706 h216 rfl ?_
        refine r_aload_n C 0 0 dL_law_707 rfl rfl ?_
        refine r_iload_n C 3 3 dL_law_708 rfl rfl ?_
        refine r_iconst (v := (3 : Int32)) C dL_law_709 rfl ?_
        refine r_iadd C dL_law_710 ?_
        obtain ⟨h217, hF⟩ := ck_e hF
        refine r_scr C hN hxs ((v3 + (3 : Int32)).toNatClampNeg) dL_law_711 h217 rfl ?_
        refine r_aload_n C 0 0 dL_law_712 rfl rfl ?_
        refine r_iload_n C 3 3 dL_law_713 rfl rfl ?_
        refine r_iconst (v := (4 : Int32)) C dL_law_714 rfl ?_
        refine r_iadd C dL_law_715 ?_
        obtain ⟨h218, hF⟩ := ck_e hF
        refine r_scr C hN hxs ((v3 + (4 : Int32)).toNatClampNeg) dL_law_716 h218 rfl ?_
        obtain ⟨r220, σ219, e221, hF⟩ := bd_e hF
        refine r_callV_i (as := [vI (xs ((v3 + (1 : Int32)).toNatClampNeg)), vI (xs ((v3 + (2 : Int32)).toNatClampNeg)), vI (xs ((v3 + (3 : Int32)).toNatClampNeg)), vI (xs ((v3 + (4 : Int32)).toNatClampNeg))]) (st := []) C dL_law_717 (s_X10_reach G l e221) rfl rfl rfl t_4_67 t_4_68 t_4_69 t_1_1 t_4_70 m_X10_reach ⟨Nat.le_of_ble_eq_true rfl, Nat.le_of_ble_eq_true rfl⟩ ⟨rfl, rfl⟩ ⟨hcl, hsl⟩ rfl (Nat.le_of_ble_eq_true rfl) ?_
        refine r_aload_n C 2 2 dL_law_720 rfl rfl ?_
        refine r_aload_n C 0 0 dL_law_721 rfl rfl ?_
        refine r_iload_n C 3 3 dL_law_722 rfl rfl ?_
        refine r_iconst (v := (1 : Int32)) C dL_law_723 rfl ?_
        refine r_iadd C dL_law_724 ?_
        obtain ⟨h222, hF⟩ := ck_e hF
        refine r_scr C hN hxs ((v3 + (1 : Int32)).toNatClampNeg) dL_law_725 h222 rfl ?_
        refine r_aload_n C 0 0 dL_law_726 rfl rfl ?_
        refine r_iload_n C 3 3 dL_law_727 rfl rfl ?_
        refine r_iconst (v := (2 : Int32)) C dL_law_728 rfl ?_
        refine r_iadd C dL_law_729 ?_
        obtain ⟨h223, hF⟩ := ck_e hF
        refine r_scr C hN hxs ((v3 + (2 : Int32)).toNatClampNeg) dL_law_730 h223 rfl ?_
        refine r_aload_n C 0 0 dL_law_731 rfl rfl ?_
        refine r_iload_n C 3 3 dL_law_732 rfl rfl ?_
        refine r_iconst (v := (3 : Int32)) C dL_law_733 rfl ?_
        refine r_iadd C dL_law_734 ?_
        obtain ⟨h224, hF⟩ := ck_e hF
        refine r_scr C hN hxs ((v3 + (3 : Int32)).toNatClampNeg) dL_law_735 h224 rfl ?_
        refine r_aload_n C 0 0 dL_law_736 rfl rfl ?_
        refine r_iload_n C 3 3 dL_law_737 rfl rfl ?_
        refine r_iconst (v := (4 : Int32)) C dL_law_738 rfl ?_
        refine r_iadd C dL_law_739 ?_
        obtain ⟨h225, hF⟩ := ck_e hF
        refine r_scr C hN hxs ((v3 + (4 : Int32)).toNatClampNeg) dL_law_740 h225 rfl ?_
        obtain ⟨r227, σ226, e228, hF⟩ := bd_e hF
        refine r_callV_i (as := [vI (xs ((v3 + (1 : Int32)).toNatClampNeg)), vI (xs ((v3 + (2 : Int32)).toNatClampNeg)), vI (xs ((v3 + (3 : Int32)).toNatClampNeg)), vI (xs ((v3 + (4 : Int32)).toNatClampNeg))]) (st := [vI r220]) C dL_law_741 (s_X11_reach G l e228) rfl rfl rfl t_6_127 t_6_128 t_6_129 t_1_14 t_6_130 m_X11_reach ⟨Nat.le_of_ble_eq_true rfl, Nat.le_of_ble_eq_true rfl⟩ ⟨rfl, rfl⟩ ⟨hcl, hsl⟩ rfl (Nat.le_of_ble_eq_true rfl) ?_
        refine r_icmp_eq C 1486 dL_law_744 (by decide)  (fun h230 => ?_) (fun h230 => ?_)
        · have hF := if_t h230 hF
          obtain ⟨x229, ex229, hF⟩ := nam_e hF
          refine r_iinc (v := x229) (ls2 := [(3, vI x229), (0, vR (110, 0, 0)), (1, vR (0, 0, 0)), (2, vR (40, 0, 0))]) C 3 dL_law_1486 rfl ex229.symm (by decide) rfl ?_
          refine r_goto C 18 dL_law_1489 (by decide) ?_
          refine r_drop (ls2 := [(0, vR (110, 0, 0)), (1, vR (0, 0, 0)), (2, vR (40, 0, 0)), (3, vI x229)]) [1, 2, 3, 0] rfl ?_
          exact ih _ _ hF
        · have hF := if_f h230 hF
          refine r_iconst (v := (0 : Int32)) C dL_law_747 rfl ?_
          exact absurd (rt_e hF).1 (by decide)
      have hF := if_f h214 hF
      by_cases h231 : ((xs (v3.toNatClampNeg)) &&& (63 : Int32)) = (19 : Int32)
      · have hF := if_t h231 hF
        refine r_tabIn (off := 716) C 749 dL_law_33 (by rw [h231]; decide) (by rw [h231]; decide) (by rw [h231]; rfl) (by decide) ?_
        refine r_aload_n C 1 1 dL_law_749 rfl rfl ?_
        refine r_aload_n C 0 0 dL_law_750 rfl rfl ?_
        refine r_iload_n C 3 3 dL_law_751 rfl rfl ?_
        refine r_iconst (v := (1 : Int32)) C dL_law_752 rfl ?_
        refine r_iadd C dL_law_753 ?_
        obtain ⟨h232, hF⟩ := ck_e hF
        refine r_scr C hN hxs ((v3 + (1 : Int32)).toNatClampNeg) dL_law_754 h232 rfl ?_
        refine r_aload_n C 0 0 dL_law_755 rfl rfl ?_
        refine r_iload_n C 3 3 dL_law_756 rfl rfl ?_
        refine r_iconst (v := (2 : Int32)) C dL_law_757 rfl ?_
        refine r_iadd C dL_law_758 ?_
        obtain ⟨h233, hF⟩ := ck_e hF
        refine r_scr C hN hxs ((v3 + (2 : Int32)).toNatClampNeg) dL_law_759 h233 rfl ?_
        refine r_aload_n C 0 0 dL_law_760 rfl rfl ?_
        refine r_iload_n C 3 3 dL_law_761 rfl rfl ?_
        refine r_iconst (v := (3 : Int32)) C dL_law_762 rfl ?_
        refine r_iadd C dL_law_763 ?_
        obtain ⟨h234, hF⟩ := ck_e hF
        refine r_scr C hN hxs ((v3 + (3 : Int32)).toNatClampNeg) dL_law_764 h234 rfl ?_
        refine r_aload_n C 0 0 dL_law_765 rfl rfl ?_
        refine r_iload_n C 3 3 dL_law_766 rfl rfl ?_
        refine r_iconst (v := (4 : Int32)) C dL_law_767 rfl ?_
        refine r_iadd C dL_law_768 ?_
        obtain ⟨h235, hF⟩ := ck_e hF
        refine r_scr C hN hxs ((v3 + (4 : Int32)).toNatClampNeg) dL_law_769 h235 rfl ?_
        obtain ⟨r237, σ236, e238, hF⟩ := bd_e hF
        refine r_callV_i (as := [vI (xs ((v3 + (1 : Int32)).toNatClampNeg)), vI (xs ((v3 + (2 : Int32)).toNatClampNeg)), vI (xs ((v3 + (3 : Int32)).toNatClampNeg)), vI (xs ((v3 + (4 : Int32)).toNatClampNeg))]) (st := []) C dL_law_770 (s_X10_ring G l e238) rfl rfl rfl t_4_76 t_4_77 t_4_78 t_1_1 t_4_79 m_X10_ring ⟨Nat.le_of_ble_eq_true rfl, Nat.le_of_ble_eq_true rfl⟩ ⟨rfl, rfl⟩ ⟨hcl, hsl⟩ rfl (Nat.le_of_ble_eq_true rfl) ?_
        refine r_aload_n C 2 2 dL_law_773 rfl rfl ?_
        refine r_aload_n C 0 0 dL_law_774 rfl rfl ?_
        refine r_iload_n C 3 3 dL_law_775 rfl rfl ?_
        refine r_iconst (v := (1 : Int32)) C dL_law_776 rfl ?_
        refine r_iadd C dL_law_777 ?_
        obtain ⟨h239, hF⟩ := ck_e hF
        refine r_scr C hN hxs ((v3 + (1 : Int32)).toNatClampNeg) dL_law_778 h239 rfl ?_
        refine r_aload_n C 0 0 dL_law_779 rfl rfl ?_
        refine r_iload_n C 3 3 dL_law_780 rfl rfl ?_
        refine r_iconst (v := (2 : Int32)) C dL_law_781 rfl ?_
        refine r_iadd C dL_law_782 ?_
        obtain ⟨h240, hF⟩ := ck_e hF
        refine r_scr C hN hxs ((v3 + (2 : Int32)).toNatClampNeg) dL_law_783 h240 rfl ?_
        refine r_aload_n C 0 0 dL_law_784 rfl rfl ?_
        refine r_iload_n C 3 3 dL_law_785 rfl rfl ?_
        refine r_iconst (v := (3 : Int32)) C dL_law_786 rfl ?_
        refine r_iadd C dL_law_787 ?_
        obtain ⟨h241, hF⟩ := ck_e hF
        refine r_scr C hN hxs ((v3 + (3 : Int32)).toNatClampNeg) dL_law_788 h241 rfl ?_
        refine r_aload_n C 0 0 dL_law_789 rfl rfl ?_
        refine r_iload_n C 3 3 dL_law_790 rfl rfl ?_
        refine r_iconst (v := (4 : Int32)) C dL_law_791 rfl ?_
        refine r_iadd C dL_law_792 ?_
        obtain ⟨h242, hF⟩ := ck_e hF
        refine r_scr C hN hxs ((v3 + (4 : Int32)).toNatClampNeg) dL_law_793 h242 rfl ?_
        obtain ⟨r244, σ243, e245, hF⟩ := bd_e hF
        refine r_callV_i (as := [vI (xs ((v3 + (1 : Int32)).toNatClampNeg)), vI (xs ((v3 + (2 : Int32)).toNatClampNeg)), vI (xs ((v3 + (3 : Int32)).toNatClampNeg)), vI (xs ((v3 + (4 : Int32)).toNatClampNeg))]) (st := [vI r237]) C dL_law_794 (s_X11_ring G l e245) rfl rfl rfl t_6_135 t_6_136 t_6_137 t_1_14 t_6_138 m_X11_ring ⟨Nat.le_of_ble_eq_true rfl, Nat.le_of_ble_eq_true rfl⟩ ⟨rfl, rfl⟩ ⟨hcl, hsl⟩ rfl (Nat.le_of_ble_eq_true rfl) ?_
        refine r_icmp_eq C 1486 dL_law_797 (by decide)  (fun h247 => ?_) (fun h247 => ?_)
        · have hF := if_t h247 hF
          obtain ⟨x246, ex246, hF⟩ := nam_e hF
          refine r_iinc (v := x246) (ls2 := [(3, vI x246), (0, vR (110, 0, 0)), (1, vR (0, 0, 0)), (2, vR (40, 0, 0))]) C 3 dL_law_1486 rfl ex246.symm (by decide) rfl ?_
          refine r_goto C 18 dL_law_1489 (by decide) ?_
          refine r_drop (ls2 := [(0, vR (110, 0, 0)), (1, vR (0, 0, 0)), (2, vR (40, 0, 0)), (3, vI x246)]) [1, 2, 3, 0] rfl ?_
          exact ih _ _ hF
        · have hF := if_f h247 hF
          refine r_iconst (v := (0 : Int32)) C dL_law_800 rfl ?_
          exact absurd (rt_e hF).1 (by decide)
      have hF := if_f h231 hF
      by_cases h248 : ((xs (v3.toNatClampNeg)) &&& (63 : Int32)) = (20 : Int32)
      · have hF := if_t h248 hF
        refine r_tabIn (off := 769) C 802 dL_law_33 (by rw [h248]; decide) (by rw [h248]; decide) (by rw [h248]; rfl) (by decide) ?_
        refine r_aload_n C 1 1 dL_law_802 rfl rfl ?_
        refine r_aload_n C 0 0 dL_law_803 rfl rfl ?_
        refine r_iload_n C 3 3 dL_law_804 rfl rfl ?_
        refine r_iconst (v := (1 : Int32)) C dL_law_805 rfl ?_
        refine r_iadd C dL_law_806 ?_
        obtain ⟨h249, hF⟩ := ck_e hF
        refine r_scr C hN hxs ((v3 + (1 : Int32)).toNatClampNeg) dL_law_807 h249 rfl ?_
        refine r_aload_n C 0 0 dL_law_808 rfl rfl ?_
        refine r_iload_n C 3 3 dL_law_809 rfl rfl ?_
        refine r_iconst (v := (2 : Int32)) C dL_law_810 rfl ?_
        refine r_iadd C dL_law_811 ?_
        obtain ⟨h250, hF⟩ := ck_e hF
        refine r_scr C hN hxs ((v3 + (2 : Int32)).toNatClampNeg) dL_law_812 h250 rfl ?_
        refine r_aload_n C 0 0 dL_law_813 rfl rfl ?_
        refine r_iload_n C 3 3 dL_law_814 rfl rfl ?_
        refine r_iconst (v := (3 : Int32)) C dL_law_815 rfl ?_
        refine r_iadd C dL_law_816 ?_
        obtain ⟨h251, hF⟩ := ck_e hF
        refine r_scr C hN hxs ((v3 + (3 : Int32)).toNatClampNeg) dL_law_817 h251 rfl ?_
        obtain ⟨r253, σ252, e254, hF⟩ := bd_e hF
        refine r_callV_l (as := [vI (xs ((v3 + (1 : Int32)).toNatClampNeg)), vI (xs ((v3 + (2 : Int32)).toNatClampNeg)), vI (xs ((v3 + (3 : Int32)).toNatClampNeg))]) (st := []) C dL_law_818 (s_X10_falls G l e254) rfl rfl rfl t_4_94 t_4_95 t_4_96 t_1_1 t_4_97 m_X10_falls ⟨Nat.le_of_ble_eq_true rfl, Nat.le_of_ble_eq_true rfl⟩ ⟨rfl, rfl⟩ ⟨hcl, hsl⟩ rfl (Nat.le_of_ble_eq_true rfl) ?_
        refine r_aload_n C 2 2 dL_law_821 rfl rfl ?_
        refine r_aload_n C 0 0 dL_law_822 rfl rfl ?_
        refine r_iload_n C 3 3 dL_law_823 rfl rfl ?_
        refine r_iconst (v := (1 : Int32)) C dL_law_824 rfl ?_
        refine r_iadd C dL_law_825 ?_
        obtain ⟨h255, hF⟩ := ck_e hF
        refine r_scr C hN hxs ((v3 + (1 : Int32)).toNatClampNeg) dL_law_826 h255 rfl ?_
        refine r_aload_n C 0 0 dL_law_827 rfl rfl ?_
        refine r_iload_n C 3 3 dL_law_828 rfl rfl ?_
        refine r_iconst (v := (2 : Int32)) C dL_law_829 rfl ?_
        refine r_iadd C dL_law_830 ?_
        obtain ⟨h256, hF⟩ := ck_e hF
        refine r_scr C hN hxs ((v3 + (2 : Int32)).toNatClampNeg) dL_law_831 h256 rfl ?_
        refine r_aload_n C 0 0 dL_law_832 rfl rfl ?_
        refine r_iload_n C 3 3 dL_law_833 rfl rfl ?_
        refine r_iconst (v := (3 : Int32)) C dL_law_834 rfl ?_
        refine r_iadd C dL_law_835 ?_
        obtain ⟨h257, hF⟩ := ck_e hF
        refine r_scr C hN hxs ((v3 + (3 : Int32)).toNatClampNeg) dL_law_836 h257 rfl ?_
        obtain ⟨r259, σ258, e260, hF⟩ := bd_e hF
        refine r_callV_l (as := [vI (xs ((v3 + (1 : Int32)).toNatClampNeg)), vI (xs ((v3 + (2 : Int32)).toNatClampNeg)), vI (xs ((v3 + (3 : Int32)).toNatClampNeg))]) (st := [vL r253]) C dL_law_837 (s_X11_falls G l e260) rfl rfl rfl t_6_144 t_6_145 t_6_146 t_1_14 t_6_147 m_X11_falls ⟨Nat.le_of_ble_eq_true rfl, Nat.le_of_ble_eq_true rfl⟩ ⟨rfl, rfl⟩ ⟨hcl, hsl⟩ rfl (Nat.le_of_ble_eq_true rfl) ?_
        refine r_lcmp C dL_law_840 ?_
        refine r_if_eq C 1486 dL_law_841 (by decide)  (fun h262 => ?_) (fun h262 => ?_)
        · have hF := if_t h262 hF
          obtain ⟨x261, ex261, hF⟩ := nam_e hF
          refine r_iinc (v := x261) (ls2 := [(3, vI x261), (0, vR (110, 0, 0)), (1, vR (0, 0, 0)), (2, vR (40, 0, 0))]) C 3 dL_law_1486 rfl ex261.symm (by decide) rfl ?_
          refine r_goto C 18 dL_law_1489 (by decide) ?_
          refine r_drop (ls2 := [(0, vR (110, 0, 0)), (1, vR (0, 0, 0)), (2, vR (40, 0, 0)), (3, vI x261)]) [1, 2, 3, 0] rfl ?_
          exact ih _ _ hF
        · have hF := if_f h262 hF
          refine r_iconst (v := (0 : Int32)) C dL_law_844 rfl ?_
          exact absurd (rt_e hF).1 (by decide)
      have hF := if_f h248 hF
      by_cases h263 : ((xs (v3.toNatClampNeg)) &&& (63 : Int32)) = (21 : Int32)
      · have hF := if_t h263 hF
        refine r_tabIn (off := 813) C 846 dL_law_33 (by rw [h263]; decide) (by rw [h263]; decide) (by rw [h263]; rfl) (by decide) ?_
        refine r_aload_n C 1 1 dL_law_846 rfl rfl ?_
        refine r_aload_n C 0 0 dL_law_847 rfl rfl ?_
        refine r_iload_n C 3 3 dL_law_848 rfl rfl ?_
        refine r_iconst (v := (1 : Int32)) C dL_law_849 rfl ?_
        refine r_iadd C dL_law_850 ?_
        obtain ⟨h264, hF⟩ := ck_e hF
        refine r_scr C hN hxs ((v3 + (1 : Int32)).toNatClampNeg) dL_law_851 h264 rfl ?_
        refine r_aload_n C 0 0 dL_law_852 rfl rfl ?_
        refine r_iload_n C 3 3 dL_law_853 rfl rfl ?_
        refine r_iconst (v := (2 : Int32)) C dL_law_854 rfl ?_
        refine r_iadd C dL_law_855 ?_
        obtain ⟨h265, hF⟩ := ck_e hF
        refine r_scr C hN hxs ((v3 + (2 : Int32)).toNatClampNeg) dL_law_856 h265 rfl ?_
        refine r_aload_n C 0 0 dL_law_857 rfl rfl ?_
        refine r_iload_n C 3 3 dL_law_858 rfl rfl ?_
        refine r_iconst (v := (3 : Int32)) C dL_law_859 rfl ?_
        refine r_iadd C dL_law_860 ?_
        obtain ⟨h266, hF⟩ := ck_e hF
        refine r_scr C hN hxs ((v3 + (3 : Int32)).toNatClampNeg) dL_law_861 h266 rfl ?_
        refine r_aload_n C 0 0 dL_law_862 rfl rfl ?_
        refine r_iload_n C 3 3 dL_law_863 rfl rfl ?_
        refine r_iconst (v := (4 : Int32)) C dL_law_864 rfl ?_
        refine r_iadd C dL_law_865 ?_
        obtain ⟨h267, hF⟩ := ck_e hF
        refine r_scr C hN hxs ((v3 + (4 : Int32)).toNatClampNeg) dL_law_866 h267 rfl ?_
        refine r_aload_n C 0 0 dL_law_867 rfl rfl ?_
        refine r_iload_n C 3 3 dL_law_868 rfl rfl ?_
        refine r_iconst (v := (5 : Int32)) C dL_law_869 rfl ?_
        refine r_iadd C dL_law_870 ?_
        obtain ⟨h268, hF⟩ := ck_e hF
        refine r_scr C hN hxs ((v3 + (5 : Int32)).toNatClampNeg) dL_law_871 h268 rfl ?_
        obtain ⟨r270, σ269, e271, hF⟩ := bd_e hF
        refine r_callV_i (as := [vI (xs ((v3 + (1 : Int32)).toNatClampNeg)), vI (xs ((v3 + (2 : Int32)).toNatClampNeg)), vI (xs ((v3 + (3 : Int32)).toNatClampNeg)), vI (xs ((v3 + (4 : Int32)).toNatClampNeg)), vI (xs ((v3 + (5 : Int32)).toNatClampNeg))]) (st := []) C dL_law_872 (s_X10_mend G l e271) rfl rfl rfl t_4_101 t_4_102 t_4_103 t_1_1 t_4_104 m_X10_mend ⟨Nat.le_of_ble_eq_true rfl, Nat.le_of_ble_eq_true rfl⟩ ⟨rfl, rfl⟩ ⟨hcl, hsl⟩ rfl (Nat.le_of_ble_eq_true rfl) ?_
        refine r_aload_n C 2 2 dL_law_875 rfl rfl ?_
        refine r_aload_n C 0 0 dL_law_876 rfl rfl ?_
        refine r_iload_n C 3 3 dL_law_877 rfl rfl ?_
        refine r_iconst (v := (1 : Int32)) C dL_law_878 rfl ?_
        refine r_iadd C dL_law_879 ?_
        obtain ⟨h272, hF⟩ := ck_e hF
        refine r_scr C hN hxs ((v3 + (1 : Int32)).toNatClampNeg) dL_law_880 h272 rfl ?_
        refine r_aload_n C 0 0 dL_law_881 rfl rfl ?_
        refine r_iload_n C 3 3 dL_law_882 rfl rfl ?_
        refine r_iconst (v := (2 : Int32)) C dL_law_883 rfl ?_
        refine r_iadd C dL_law_884 ?_
        obtain ⟨h273, hF⟩ := ck_e hF
        refine r_scr C hN hxs ((v3 + (2 : Int32)).toNatClampNeg) dL_law_885 h273 rfl ?_
        refine r_aload_n C 0 0 dL_law_886 rfl rfl ?_
        refine r_iload_n C 3 3 dL_law_887 rfl rfl ?_
        refine r_iconst (v := (3 : Int32)) C dL_law_888 rfl ?_
        refine r_iadd C dL_law_889 ?_
        obtain ⟨h274, hF⟩ := ck_e hF
        refine r_scr C hN hxs ((v3 + (3 : Int32)).toNatClampNeg) dL_law_890 h274 rfl ?_
        refine r_aload_n C 0 0 dL_law_891 rfl rfl ?_
        refine r_iload_n C 3 3 dL_law_892 rfl rfl ?_
        refine r_iconst (v := (4 : Int32)) C dL_law_893 rfl ?_
        refine r_iadd C dL_law_894 ?_
        obtain ⟨h275, hF⟩ := ck_e hF
        refine r_scr C hN hxs ((v3 + (4 : Int32)).toNatClampNeg) dL_law_895 h275 rfl ?_
        refine r_aload_n C 0 0 dL_law_896 rfl rfl ?_
        refine r_iload_n C 3 3 dL_law_897 rfl rfl ?_
        refine r_iconst (v := (5 : Int32)) C dL_law_898 rfl ?_
        refine r_iadd C dL_law_899 ?_
        obtain ⟨h276, hF⟩ := ck_e hF
        refine r_scr C hN hxs ((v3 + (5 : Int32)).toNatClampNeg) dL_law_900 h276 rfl ?_
        obtain ⟨r278, σ277, e279, hF⟩ := bd_e hF
        refine r_callV_i (as := [vI (xs ((v3 + (1 : Int32)).toNatClampNeg)), vI (xs ((v3 + (2 : Int32)).toNatClampNeg)), vI (xs ((v3 + (3 : Int32)).toNatClampNeg)), vI (xs ((v3 + (4 : Int32)).toNatClampNeg)), vI (xs ((v3 + (5 : Int32)).toNatClampNeg))]) (st := [vI r270]) C dL_law_901 (s_X11_mend G l e279) rfl rfl rfl t_6_150 t_6_151 t_6_152 t_1_14 t_6_153 m_X11_mend ⟨Nat.le_of_ble_eq_true rfl, Nat.le_of_ble_eq_true rfl⟩ ⟨rfl, rfl⟩ ⟨hcl, hsl⟩ rfl (Nat.le_of_ble_eq_true rfl) ?_
        refine r_icmp_eq C 1486 dL_law_904 (by decide)  (fun h281 => ?_) (fun h281 => ?_)
        · have hF := if_t h281 hF
          obtain ⟨x280, ex280, hF⟩ := nam_e hF
          refine r_iinc (v := x280) (ls2 := [(3, vI x280), (0, vR (110, 0, 0)), (1, vR (0, 0, 0)), (2, vR (40, 0, 0))]) C 3 dL_law_1486 rfl ex280.symm (by decide) rfl ?_
          refine r_goto C 18 dL_law_1489 (by decide) ?_
          refine r_drop (ls2 := [(0, vR (110, 0, 0)), (1, vR (0, 0, 0)), (2, vR (40, 0, 0)), (3, vI x280)]) [1, 2, 3, 0] rfl ?_
          exact ih _ _ hF
        · have hF := if_f h281 hF
          refine r_iconst (v := (0 : Int32)) C dL_law_907 rfl ?_
          exact absurd (rt_e hF).1 (by decide)
      have hF := if_f h263 hF
      by_cases h282 : ((xs (v3.toNatClampNeg)) &&& (63 : Int32)) = (22 : Int32)
      · have hF := if_t h282 hF
        refine r_tabIn (off := 876) C 909 dL_law_33 (by rw [h282]; decide) (by rw [h282]; decide) (by rw [h282]; rfl) (by decide) ?_
        refine r_aload_n C 1 1 dL_law_909 rfl rfl ?_
        refine r_aload_n C 0 0 dL_law_910 rfl rfl ?_
        refine r_iload_n C 3 3 dL_law_911 rfl rfl ?_
        refine r_iconst (v := (1 : Int32)) C dL_law_912 rfl ?_
        refine r_iadd C dL_law_913 ?_
        obtain ⟨h283, hF⟩ := ck_e hF
        refine r_scr C hN hxs ((v3 + (1 : Int32)).toNatClampNeg) dL_law_914 h283 rfl ?_
        refine r_aload_n C 0 0 dL_law_915 rfl rfl ?_
        refine r_iload_n C 3 3 dL_law_916 rfl rfl ?_
        refine r_iconst (v := (2 : Int32)) C dL_law_917 rfl ?_
        refine r_iadd C dL_law_918 ?_
        obtain ⟨h284, hF⟩ := ck_e hF
        refine r_scr C hN hxs ((v3 + (2 : Int32)).toNatClampNeg) dL_law_919 h284 rfl ?_
        refine r_aload_n C 0 0 dL_law_920 rfl rfl ?_
        refine r_iload_n C 3 3 dL_law_921 rfl rfl ?_
        refine r_iconst (v := (3 : Int32)) C dL_law_922 rfl ?_
        refine r_iadd C dL_law_923 ?_
        obtain ⟨h285, hF⟩ := ck_e hF
        refine r_scr C hN hxs ((v3 + (3 : Int32)).toNatClampNeg) dL_law_924 h285 rfl ?_
        obtain ⟨k287, ek287, hF⟩ := nam_e hF
        have hk287 : ∀ (y286 : Int32) (σ288 : St), k287 y286 σ288 = some ((1 : Int32), σ') → Rt G p l e room_1 s m #[Value.ref b] below meth c cells slots (lw_Z below #[Value.ref b] s) 4 933 [(0, vR (110, 0, 0)), (1, vR (0, 0, 0)), (2, vR (40, 0, 0)), (3, vI v3)] [vI y286, vI (xs ((v3 + (2 : Int32)).toNatClampNeg)), vI (xs ((v3 + (1 : Int32)).toNatClampNeg)), vR (0, 0, 0)] σ288 := by
          intro y286 σ288 hF
          subst ek287
          obtain ⟨r290, σ289, e291, hF⟩ := bd_e hF
          refine r_callV_i (as := [vI (xs ((v3 + (1 : Int32)).toNatClampNeg)), vI (xs ((v3 + (2 : Int32)).toNatClampNeg)), vI y286]) (st := []) C dL_law_933 (s_X10_life G l e291) rfl rfl rfl t_4_114 t_4_115 t_4_116 t_1_1 t_4_117 m_X10_life ⟨Nat.le_of_ble_eq_true rfl, Nat.le_of_ble_eq_true rfl⟩ ⟨rfl, rfl⟩ ⟨hcl, hsl⟩ rfl (Nat.le_of_ble_eq_true rfl) ?_
          refine r_aload_n C 2 2 dL_law_936 rfl rfl ?_
          refine r_aload_n C 0 0 dL_law_937 rfl rfl ?_
          refine r_iload_n C 3 3 dL_law_938 rfl rfl ?_
          refine r_iconst (v := (1 : Int32)) C dL_law_939 rfl ?_
          refine r_iadd C dL_law_940 ?_
          obtain ⟨h292, hF⟩ := ck_e hF
          refine r_scr C hN hxs ((v3 + (1 : Int32)).toNatClampNeg) dL_law_941 h292 rfl ?_
          refine r_aload_n C 0 0 dL_law_942 rfl rfl ?_
          refine r_iload_n C 3 3 dL_law_943 rfl rfl ?_
          refine r_iconst (v := (2 : Int32)) C dL_law_944 rfl ?_
          refine r_iadd C dL_law_945 ?_
          obtain ⟨h293, hF⟩ := ck_e hF
          refine r_scr C hN hxs ((v3 + (2 : Int32)).toNatClampNeg) dL_law_946 h293 rfl ?_
          refine r_aload_n C 0 0 dL_law_947 rfl rfl ?_
          refine r_iload_n C 3 3 dL_law_948 rfl rfl ?_
          refine r_iconst (v := (3 : Int32)) C dL_law_949 rfl ?_
          refine r_iadd C dL_law_950 ?_
          obtain ⟨h294, hF⟩ := ck_e hF
          refine r_scr C hN hxs ((v3 + (3 : Int32)).toNatClampNeg) dL_law_951 h294 rfl ?_
          obtain ⟨k296, ek296, hF⟩ := nam_e hF
          have hk296 : ∀ (y295 : Int32) (σ297 : St), k296 y295 σ297 = some ((1 : Int32), σ') → Rt G p l e room_1 s m #[Value.ref b] below meth c cells slots (lw_Z below #[Value.ref b] s) 4 960 [(0, vR (110, 0, 0)), (1, vR (0, 0, 0)), (2, vR (40, 0, 0)), (3, vI v3)] [vI y295, vI (xs ((v3 + (2 : Int32)).toNatClampNeg)), vI (xs ((v3 + (1 : Int32)).toNatClampNeg)), vR (40, 0, 0), vI r290] σ297 := by
            intro y295 σ297 hF
            subst ek296
            obtain ⟨r299, σ298, e300, hF⟩ := bd_e hF
            refine r_callV_i (as := [vI (xs ((v3 + (1 : Int32)).toNatClampNeg)), vI (xs ((v3 + (2 : Int32)).toNatClampNeg)), vI y295]) (st := [vI r290]) C dL_law_960 (s_X11_life G l e300) rfl rfl rfl t_6_154 t_6_155 t_6_156 t_1_14 t_6_157 m_X11_life ⟨Nat.le_of_ble_eq_true rfl, Nat.le_of_ble_eq_true rfl⟩ ⟨rfl, rfl⟩ ⟨hcl, hsl⟩ rfl (Nat.le_of_ble_eq_true rfl) ?_
            refine r_icmp_eq C 1486 dL_law_963 (by decide)  (fun h302 => ?_) (fun h302 => ?_)
            · have hF := if_t h302 hF
              obtain ⟨x301, ex301, hF⟩ := nam_e hF
              refine r_iinc (v := x301) (ls2 := [(3, vI x301), (0, vR (110, 0, 0)), (1, vR (0, 0, 0)), (2, vR (40, 0, 0))]) C 3 dL_law_1486 rfl ex301.symm (by decide) rfl ?_
              refine r_goto C 18 dL_law_1489 (by decide) ?_
              refine r_drop (ls2 := [(0, vR (110, 0, 0)), (1, vR (0, 0, 0)), (2, vR (40, 0, 0)), (3, vI x301)]) [1, 2, 3, 0] rfl ?_
              exact ih _ _ hF
            · have hF := if_f h302 hF
              refine r_iconst (v := (0 : Int32)) C dL_law_966 rfl ?_
              exact absurd (rt_e hF).1 (by decide)
          refine r_if_eq C 959 dL_law_952 (by decide)  (fun h303 => ?_) (fun h303 => ?_)
          · have hF := if_t h303 hF
            refine r_iconst (v := (0 : Int32)) C dL_law_959 rfl ?_
            exact hk296 _ _ hF
          · have hF := if_f h303 hF
            refine r_iconst (v := (1 : Int32)) C dL_law_955 rfl ?_
            refine r_goto C 960 dL_law_956 (by decide) ?_
            exact hk296 _ _ hF
        refine r_if_eq C 932 dL_law_925 (by decide)  (fun h304 => ?_) (fun h304 => ?_)
        · have hF := if_t h304 hF
          refine r_iconst (v := (0 : Int32)) C dL_law_932 rfl ?_
          exact hk287 _ _ hF
        · have hF := if_f h304 hF
          refine r_iconst (v := (1 : Int32)) C dL_law_928 rfl ?_
          refine r_goto C 933 dL_law_929 (by decide) ?_
          exact hk287 _ _ hF
      have hF := if_f h282 hF
      by_cases h305 : ((xs (v3.toNatClampNeg)) &&& (63 : Int32)) = (23 : Int32)
      · have hF := if_t h305 hF
        refine r_tabIn (off := 935) C 968 dL_law_33 (by rw [h305]; decide) (by rw [h305]; decide) (by rw [h305]; rfl) (by decide) ?_
        refine r_aload_n C 1 1 dL_law_968 rfl rfl ?_
        refine r_aload_n C 0 0 dL_law_969 rfl rfl ?_
        refine r_iload_n C 3 3 dL_law_970 rfl rfl ?_
        refine r_iconst (v := (1 : Int32)) C dL_law_971 rfl ?_
        refine r_iadd C dL_law_972 ?_
        obtain ⟨h306, hF⟩ := ck_e hF
        refine r_scr C hN hxs ((v3 + (1 : Int32)).toNatClampNeg) dL_law_973 h306 rfl ?_
        refine r_aload_n C 0 0 dL_law_974 rfl rfl ?_
        refine r_iload_n C 3 3 dL_law_975 rfl rfl ?_
        refine r_iconst (v := (2 : Int32)) C dL_law_976 rfl ?_
        refine r_iadd C dL_law_977 ?_
        obtain ⟨h307, hF⟩ := ck_e hF
        refine r_scr C hN hxs ((v3 + (2 : Int32)).toNatClampNeg) dL_law_978 h307 rfl ?_
        obtain ⟨k309, ek309, hF⟩ := nam_e hF
        have hk309 : ∀ (y308 : Int32) (σ310 : St), k309 y308 σ310 = some ((1 : Int32), σ') → Rt G p l e room_1 s m #[Value.ref b] below meth c cells slots (lw_Z below #[Value.ref b] s) 4 987 [(0, vR (110, 0, 0)), (1, vR (0, 0, 0)), (2, vR (40, 0, 0)), (3, vI v3)] [vI y308, vI (xs ((v3 + (1 : Int32)).toNatClampNeg)), vR (0, 0, 0)] σ310 := by
          intro y308 σ310 hF
          subst ek309
          refine r_aload_n C 0 0 dL_law_987 rfl rfl ?_
          refine r_iload_n C 3 3 dL_law_988 rfl rfl ?_
          refine r_iconst (v := (3 : Int32)) C dL_law_989 rfl ?_
          refine r_iadd C dL_law_990 ?_
          obtain ⟨h311, hF⟩ := ck_e hF
          refine r_scr C hN hxs ((v3 + (3 : Int32)).toNatClampNeg) dL_law_991 h311 rfl ?_
          obtain ⟨r313, σ312, e314, hF⟩ := bd_e hF
          refine r_callV_i (as := [vI (xs ((v3 + (1 : Int32)).toNatClampNeg)), vI y308, vI (xs ((v3 + (3 : Int32)).toNatClampNeg))]) (st := []) C dL_law_992 (s_X10_hump G l e314) rfl rfl rfl t_4_137 t_4_138 t_4_139 t_1_1 t_4_140 m_X10_hump ⟨Nat.le_of_ble_eq_true rfl, Nat.le_of_ble_eq_true rfl⟩ ⟨rfl, rfl⟩ ⟨hcl, hsl⟩ rfl (Nat.le_of_ble_eq_true rfl) ?_
          refine r_aload_n C 2 2 dL_law_995 rfl rfl ?_
          refine r_aload_n C 0 0 dL_law_996 rfl rfl ?_
          refine r_iload_n C 3 3 dL_law_997 rfl rfl ?_
          refine r_iconst (v := (1 : Int32)) C dL_law_998 rfl ?_
          refine r_iadd C dL_law_999 ?_
          obtain ⟨h315, hF⟩ := ck_e hF
          refine r_scr C hN hxs ((v3 + (1 : Int32)).toNatClampNeg) dL_law_1000 h315 rfl ?_
          refine r_aload_n C 0 0 dL_law_1001 rfl rfl ?_
          refine r_iload_n C 3 3 dL_law_1002 rfl rfl ?_
          refine r_iconst (v := (2 : Int32)) C dL_law_1003 rfl ?_
          refine r_iadd C dL_law_1004 ?_
          obtain ⟨h316, hF⟩ := ck_e hF
          refine r_scr C hN hxs ((v3 + (2 : Int32)).toNatClampNeg) dL_law_1005 h316 rfl ?_
          obtain ⟨k318, ek318, hF⟩ := nam_e hF
          have hk318 : ∀ (y317 : Int32) (σ319 : St), k318 y317 σ319 = some ((1 : Int32), σ') → Rt G p l e room_1 s m #[Value.ref b] below meth c cells slots (lw_Z below #[Value.ref b] s) 4 1014 [(0, vR (110, 0, 0)), (1, vR (0, 0, 0)), (2, vR (40, 0, 0)), (3, vI v3)] [vI y317, vI (xs ((v3 + (1 : Int32)).toNatClampNeg)), vR (40, 0, 0), vI r313] σ319 := by
            intro y317 σ319 hF
            subst ek318
            refine r_aload_n C 0 0 dL_law_1014 rfl rfl ?_
            refine r_iload_n C 3 3 dL_law_1015 rfl rfl ?_
            refine r_iconst (v := (3 : Int32)) C dL_law_1016 rfl ?_
            refine r_iadd C dL_law_1017 ?_
            obtain ⟨h320, hF⟩ := ck_e hF
            refine r_scr C hN hxs ((v3 + (3 : Int32)).toNatClampNeg) dL_law_1018 h320 rfl ?_
            obtain ⟨r322, σ321, e323, hF⟩ := bd_e hF
            refine r_callV_i (as := [vI (xs ((v3 + (1 : Int32)).toNatClampNeg)), vI y317, vI (xs ((v3 + (3 : Int32)).toNatClampNeg))]) (st := [vI r313]) C dL_law_1019 (s_X11_hump G l e323) rfl rfl rfl t_6_176 t_6_177 t_6_178 t_1_14 t_6_179 m_X11_hump ⟨Nat.le_of_ble_eq_true rfl, Nat.le_of_ble_eq_true rfl⟩ ⟨rfl, rfl⟩ ⟨hcl, hsl⟩ rfl (Nat.le_of_ble_eq_true rfl) ?_
            refine r_icmp_eq C 1486 dL_law_1022 (by decide)  (fun h325 => ?_) (fun h325 => ?_)
            · have hF := if_t h325 hF
              obtain ⟨x324, ex324, hF⟩ := nam_e hF
              refine r_iinc (v := x324) (ls2 := [(3, vI x324), (0, vR (110, 0, 0)), (1, vR (0, 0, 0)), (2, vR (40, 0, 0))]) C 3 dL_law_1486 rfl ex324.symm (by decide) rfl ?_
              refine r_goto C 18 dL_law_1489 (by decide) ?_
              refine r_drop (ls2 := [(0, vR (110, 0, 0)), (1, vR (0, 0, 0)), (2, vR (40, 0, 0)), (3, vI x324)]) [1, 2, 3, 0] rfl ?_
              exact ih _ _ hF
            · have hF := if_f h325 hF
              refine r_iconst (v := (0 : Int32)) C dL_law_1025 rfl ?_
              exact absurd (rt_e hF).1 (by decide)
          refine r_if_eq C 1013 dL_law_1006 (by decide)  (fun h326 => ?_) (fun h326 => ?_)
          · have hF := if_t h326 hF
            refine r_iconst (v := (0 : Int32)) C dL_law_1013 rfl ?_
            exact hk318 _ _ hF
          · have hF := if_f h326 hF
            refine r_iconst (v := (1 : Int32)) C dL_law_1009 rfl ?_
            refine r_goto C 1014 dL_law_1010 (by decide) ?_
            exact hk318 _ _ hF
        refine r_if_eq C 986 dL_law_979 (by decide)  (fun h327 => ?_) (fun h327 => ?_)
        · have hF := if_t h327 hF
          refine r_iconst (v := (0 : Int32)) C dL_law_986 rfl ?_
          exact hk309 _ _ hF
        · have hF := if_f h327 hF
          refine r_iconst (v := (1 : Int32)) C dL_law_982 rfl ?_
          refine r_goto C 987 dL_law_983 (by decide) ?_
          exact hk309 _ _ hF
      have hF := if_f h305 hF
      by_cases h328 : ((xs (v3.toNatClampNeg)) &&& (63 : Int32)) = (24 : Int32)
      · have hF := if_t h328 hF
        refine r_tabIn (off := 994) C 1027 dL_law_33 (by rw [h328]; decide) (by rw [h328]; decide) (by rw [h328]; rfl) (by decide) ?_
        refine r_aload_n C 1 1 dL_law_1027 rfl rfl ?_
        refine r_aload_n C 0 0 dL_law_1028 rfl rfl ?_
        refine r_iload_n C 3 3 dL_law_1029 rfl rfl ?_
        refine r_iconst (v := (1 : Int32)) C dL_law_1030 rfl ?_
        refine r_iadd C dL_law_1031 ?_
        obtain ⟨h329, hF⟩ := ck_e hF
        refine r_scr C hN hxs ((v3 + (1 : Int32)).toNatClampNeg) dL_law_1032 h329 rfl ?_
        refine r_aload_n C 0 0 dL_law_1033 rfl rfl ?_
        refine r_iload_n C 3 3 dL_law_1034 rfl rfl ?_
        refine r_iconst (v := (2 : Int32)) C dL_law_1035 rfl ?_
        refine r_iadd C dL_law_1036 ?_
        obtain ⟨h330, hF⟩ := ck_e hF
        refine r_scr C hN hxs ((v3 + (2 : Int32)).toNatClampNeg) dL_law_1037 h330 rfl ?_
        refine r_aload_n C 0 0 dL_law_1038 rfl rfl ?_
        refine r_iload_n C 3 3 dL_law_1039 rfl rfl ?_
        refine r_iconst (v := (3 : Int32)) C dL_law_1040 rfl ?_
        refine r_iadd C dL_law_1041 ?_
        obtain ⟨h331, hF⟩ := ck_e hF
        refine r_scr C hN hxs ((v3 + (3 : Int32)).toNatClampNeg) dL_law_1042 h331 rfl ?_
        obtain ⟨k333, ek333, hF⟩ := nam_e hF
        have hk333 : ∀ (y332 : Int32) (σ334 : St), k333 y332 σ334 = some ((1 : Int32), σ') → Rt G p l e room_1 s m #[Value.ref b] below meth c cells slots (lw_Z below #[Value.ref b] s) 4 1051 [(0, vR (110, 0, 0)), (1, vR (0, 0, 0)), (2, vR (40, 0, 0)), (3, vI v3)] [vI y332, vI (xs ((v3 + (2 : Int32)).toNatClampNeg)), vI (xs ((v3 + (1 : Int32)).toNatClampNeg)), vR (0, 0, 0)] σ334 := by
          intro y332 σ334 hF
          subst ek333
          refine r_aload_n C 0 0 dL_law_1051 rfl rfl ?_
          refine r_iload_n C 3 3 dL_law_1052 rfl rfl ?_
          refine r_iconst (v := (4 : Int32)) C dL_law_1053 rfl ?_
          refine r_iadd C dL_law_1054 ?_
          obtain ⟨h335, hF⟩ := ck_e hF
          refine r_scr C hN hxs ((v3 + (4 : Int32)).toNatClampNeg) dL_law_1055 h335 rfl ?_
          obtain ⟨r337, σ336, e338, hF⟩ := bd_e hF
          refine r_callV_i (as := [vI (xs ((v3 + (1 : Int32)).toNatClampNeg)), vI (xs ((v3 + (2 : Int32)).toNatClampNeg)), vI y332, vI (xs ((v3 + (4 : Int32)).toNatClampNeg))]) (st := []) C dL_law_1056 (s_X10_hot G l e338) rfl rfl rfl t_4_155 t_4_156 t_4_157 t_1_1 t_4_158 m_X10_hot ⟨Nat.le_of_ble_eq_true rfl, Nat.le_of_ble_eq_true rfl⟩ ⟨rfl, rfl⟩ ⟨hcl, hsl⟩ rfl (Nat.le_of_ble_eq_true rfl) ?_
          refine r_aload_n C 2 2 dL_law_1059 rfl rfl ?_
          refine r_aload_n C 0 0 dL_law_1060 rfl rfl ?_
          refine r_iload_n C 3 3 dL_law_1061 rfl rfl ?_
          refine r_iconst (v := (1 : Int32)) C dL_law_1062 rfl ?_
          refine r_iadd C dL_law_1063 ?_
          obtain ⟨h339, hF⟩ := ck_e hF
          refine r_scr C hN hxs ((v3 + (1 : Int32)).toNatClampNeg) dL_law_1064 h339 rfl ?_
          refine r_aload_n C 0 0 dL_law_1065 rfl rfl ?_
          refine r_iload_n C 3 3 dL_law_1066 rfl rfl ?_
          refine r_iconst (v := (2 : Int32)) C dL_law_1067 rfl ?_
          refine r_iadd C dL_law_1068 ?_
          obtain ⟨h340, hF⟩ := ck_e hF
          refine r_scr C hN hxs ((v3 + (2 : Int32)).toNatClampNeg) dL_law_1069 h340 rfl ?_
          refine r_aload_n C 0 0 dL_law_1070 rfl rfl ?_
          refine r_iload_n C 3 3 dL_law_1071 rfl rfl ?_
          refine r_iconst (v := (3 : Int32)) C dL_law_1072 rfl ?_
          refine r_iadd C dL_law_1073 ?_
          obtain ⟨h341, hF⟩ := ck_e hF
          refine r_scr C hN hxs ((v3 + (3 : Int32)).toNatClampNeg) dL_law_1074 h341 rfl ?_
          obtain ⟨k343, ek343, hF⟩ := nam_e hF
          have hk343 : ∀ (y342 : Int32) (σ344 : St), k343 y342 σ344 = some ((1 : Int32), σ') → Rt G p l e room_1 s m #[Value.ref b] below meth c cells slots (lw_Z below #[Value.ref b] s) 4 1083 [(0, vR (110, 0, 0)), (1, vR (0, 0, 0)), (2, vR (40, 0, 0)), (3, vI v3)] [vI y342, vI (xs ((v3 + (2 : Int32)).toNatClampNeg)), vI (xs ((v3 + (1 : Int32)).toNatClampNeg)), vR (40, 0, 0), vI r337] σ344 := by
            intro y342 σ344 hF
            subst ek343
            refine r_aload_n C 0 0 dL_law_1083 rfl rfl ?_
            refine r_iload_n C 3 3 dL_law_1084 rfl rfl ?_
            refine r_iconst (v := (4 : Int32)) C dL_law_1085 rfl ?_
            refine r_iadd C dL_law_1086 ?_
            obtain ⟨h345, hF⟩ := ck_e hF
            refine r_scr C hN hxs ((v3 + (4 : Int32)).toNatClampNeg) dL_law_1087 h345 rfl ?_
            obtain ⟨r347, σ346, e348, hF⟩ := bd_e hF
            refine r_callV_i (as := [vI (xs ((v3 + (1 : Int32)).toNatClampNeg)), vI (xs ((v3 + (2 : Int32)).toNatClampNeg)), vI y342, vI (xs ((v3 + (4 : Int32)).toNatClampNeg))]) (st := [vI r337]) C dL_law_1088 (s_X11_hot G l e348) rfl rfl rfl t_6_181 t_6_182 t_6_183 t_1_14 t_6_184 m_X11_hot ⟨Nat.le_of_ble_eq_true rfl, Nat.le_of_ble_eq_true rfl⟩ ⟨rfl, rfl⟩ ⟨hcl, hsl⟩ rfl (Nat.le_of_ble_eq_true rfl) ?_
            refine r_icmp_eq C 1486 dL_law_1091 (by decide)  (fun h350 => ?_) (fun h350 => ?_)
            · have hF := if_t h350 hF
              obtain ⟨x349, ex349, hF⟩ := nam_e hF
              refine r_iinc (v := x349) (ls2 := [(3, vI x349), (0, vR (110, 0, 0)), (1, vR (0, 0, 0)), (2, vR (40, 0, 0))]) C 3 dL_law_1486 rfl ex349.symm (by decide) rfl ?_
              refine r_goto C 18 dL_law_1489 (by decide) ?_
              refine r_drop (ls2 := [(0, vR (110, 0, 0)), (1, vR (0, 0, 0)), (2, vR (40, 0, 0)), (3, vI x349)]) [1, 2, 3, 0] rfl ?_
              exact ih _ _ hF
            · have hF := if_f h350 hF
              refine r_iconst (v := (0 : Int32)) C dL_law_1094 rfl ?_
              exact absurd (rt_e hF).1 (by decide)
          refine r_if_eq C 1082 dL_law_1075 (by decide)  (fun h351 => ?_) (fun h351 => ?_)
          · have hF := if_t h351 hF
            refine r_iconst (v := (0 : Int32)) C dL_law_1082 rfl ?_
            exact hk343 _ _ hF
          · have hF := if_f h351 hF
            refine r_iconst (v := (1 : Int32)) C dL_law_1078 rfl ?_
            refine r_goto C 1083 dL_law_1079 (by decide) ?_
            exact hk343 _ _ hF
        refine r_if_eq C 1050 dL_law_1043 (by decide)  (fun h352 => ?_) (fun h352 => ?_)
        · have hF := if_t h352 hF
          refine r_iconst (v := (0 : Int32)) C dL_law_1050 rfl ?_
          exact hk333 _ _ hF
        · have hF := if_f h352 hF
          refine r_iconst (v := (1 : Int32)) C dL_law_1046 rfl ?_
          refine r_goto C 1051 dL_law_1047 (by decide) ?_
          exact hk333 _ _ hF
      have hF := if_f h328 hF
      by_cases h353 : ((xs (v3.toNatClampNeg)) &&& (63 : Int32)) = (25 : Int32)
      · have hF := if_t h353 hF
        refine r_tabIn (off := 1063) C 1096 dL_law_33 (by rw [h353]; decide) (by rw [h353]; decide) (by rw [h353]; rfl) (by decide) ?_
        refine r_aload_n C 1 1 dL_law_1096 rfl rfl ?_
        refine r_aload_n C 0 0 dL_law_1097 rfl rfl ?_
        refine r_iload_n C 3 3 dL_law_1098 rfl rfl ?_
        refine r_iconst (v := (1 : Int32)) C dL_law_1099 rfl ?_
        refine r_iadd C dL_law_1100 ?_
        obtain ⟨h354, hF⟩ := ck_e hF
        refine r_scr C hN hxs ((v3 + (1 : Int32)).toNatClampNeg) dL_law_1101 h354 rfl ?_
        refine r_aload_n C 0 0 dL_law_1102 rfl rfl ?_
        refine r_iload_n C 3 3 dL_law_1103 rfl rfl ?_
        refine r_iconst (v := (2 : Int32)) C dL_law_1104 rfl ?_
        refine r_iadd C dL_law_1105 ?_
        obtain ⟨h355, hF⟩ := ck_e hF
        refine r_scr C hN hxs ((v3 + (2 : Int32)).toNatClampNeg) dL_law_1106 h355 rfl ?_
        refine r_aload_n C 0 0 dL_law_1107 rfl rfl ?_
        refine r_iload_n C 3 3 dL_law_1108 rfl rfl ?_
        refine r_iconst (v := (3 : Int32)) C dL_law_1109 rfl ?_
        refine r_iadd C dL_law_1110 ?_
        obtain ⟨h356, hF⟩ := ck_e hF
        refine r_scr C hN hxs ((v3 + (3 : Int32)).toNatClampNeg) dL_law_1111 h356 rfl ?_
        refine r_aload_n C 0 0 dL_law_1112 rfl rfl ?_
        refine r_iload_n C 3 3 dL_law_1113 rfl rfl ?_
        refine r_iconst (v := (4 : Int32)) C dL_law_1114 rfl ?_
        refine r_iadd C dL_law_1115 ?_
        obtain ⟨h357, hF⟩ := ck_e hF
        refine r_scr C hN hxs ((v3 + (4 : Int32)).toNatClampNeg) dL_law_1116 h357 rfl ?_
        obtain ⟨r359, σ358, e360, hF⟩ := bd_e hF
        refine r_callV_l (as := [vI (xs ((v3 + (1 : Int32)).toNatClampNeg)), vI (xs ((v3 + (2 : Int32)).toNatClampNeg)), vI (xs ((v3 + (3 : Int32)).toNatClampNeg)), vI (xs ((v3 + (4 : Int32)).toNatClampNeg))]) (st := []) C dL_law_1117 (s_X10_odds G l e360) rfl rfl rfl t_4_159 t_4_160 t_4_161 t_1_1 t_4_162 m_X10_odds ⟨Nat.le_of_ble_eq_true rfl, Nat.le_of_ble_eq_true rfl⟩ ⟨rfl, rfl⟩ ⟨hcl, hsl⟩ rfl (Nat.le_of_ble_eq_true rfl) ?_
        refine r_aload_n C 2 2 dL_law_1120 rfl rfl ?_
        refine r_aload_n C 0 0 dL_law_1121 rfl rfl ?_
        refine r_iload_n C 3 3 dL_law_1122 rfl rfl ?_
        refine r_iconst (v := (1 : Int32)) C dL_law_1123 rfl ?_
        refine r_iadd C dL_law_1124 ?_
        obtain ⟨h361, hF⟩ := ck_e hF
        refine r_scr C hN hxs ((v3 + (1 : Int32)).toNatClampNeg) dL_law_1125 h361 rfl ?_
        refine r_aload_n C 0 0 dL_law_1126 rfl rfl ?_
        refine r_iload_n C 3 3 dL_law_1127 rfl rfl ?_
        refine r_iconst (v := (2 : Int32)) C dL_law_1128 rfl ?_
        refine r_iadd C dL_law_1129 ?_
        obtain ⟨h362, hF⟩ := ck_e hF
        refine r_scr C hN hxs ((v3 + (2 : Int32)).toNatClampNeg) dL_law_1130 h362 rfl ?_
        refine r_aload_n C 0 0 dL_law_1131 rfl rfl ?_
        refine r_iload_n C 3 3 dL_law_1132 rfl rfl ?_
        refine r_iconst (v := (3 : Int32)) C dL_law_1133 rfl ?_
        refine r_iadd C dL_law_1134 ?_
        obtain ⟨h363, hF⟩ := ck_e hF
        refine r_scr C hN hxs ((v3 + (3 : Int32)).toNatClampNeg) dL_law_1135 h363 rfl ?_
        refine r_aload_n C 0 0 dL_law_1136 rfl rfl ?_
        refine r_iload_n C 3 3 dL_law_1137 rfl rfl ?_
        refine r_iconst (v := (4 : Int32)) C dL_law_1138 rfl ?_
        refine r_iadd C dL_law_1139 ?_
        obtain ⟨h364, hF⟩ := ck_e hF
        refine r_scr C hN hxs ((v3 + (4 : Int32)).toNatClampNeg) dL_law_1140 h364 rfl ?_
        obtain ⟨r366, σ365, e367, hF⟩ := bd_e hF
        refine r_callV_l (as := [vI (xs ((v3 + (1 : Int32)).toNatClampNeg)), vI (xs ((v3 + (2 : Int32)).toNatClampNeg)), vI (xs ((v3 + (3 : Int32)).toNatClampNeg)), vI (xs ((v3 + (4 : Int32)).toNatClampNeg))]) (st := [vL r359]) C dL_law_1141 (s_X11_odds G l e367) rfl rfl rfl t_6_189 t_6_190 t_6_191 t_1_14 t_6_192 m_X11_odds ⟨Nat.le_of_ble_eq_true rfl, Nat.le_of_ble_eq_true rfl⟩ ⟨rfl, rfl⟩ ⟨hcl, hsl⟩ rfl (Nat.le_of_ble_eq_true rfl) ?_
        refine r_lcmp C dL_law_1144 ?_
        refine r_if_eq C 1486 dL_law_1145 (by decide)  (fun h369 => ?_) (fun h369 => ?_)
        · have hF := if_t h369 hF
          obtain ⟨x368, ex368, hF⟩ := nam_e hF
          refine r_iinc (v := x368) (ls2 := [(3, vI x368), (0, vR (110, 0, 0)), (1, vR (0, 0, 0)), (2, vR (40, 0, 0))]) C 3 dL_law_1486 rfl ex368.symm (by decide) rfl ?_
          refine r_goto C 18 dL_law_1489 (by decide) ?_
          refine r_drop (ls2 := [(0, vR (110, 0, 0)), (1, vR (0, 0, 0)), (2, vR (40, 0, 0)), (3, vI x368)]) [1, 2, 3, 0] rfl ?_
          exact ih _ _ hF
        · have hF := if_f h369 hF
          refine r_iconst (v := (0 : Int32)) C dL_law_1148 rfl ?_
          exact absurd (rt_e hF).1 (by decide)
      have hF := if_f h353 hF
      by_cases h370 : ((xs (v3.toNatClampNeg)) &&& (63 : Int32)) = (26 : Int32)
      · have hF := if_t h370 hF
        refine r_tabIn (off := 1117) C 1150 dL_law_33 (by rw [h370]; decide) (by rw [h370]; decide) (by rw [h370]; rfl) (by decide) ?_
        refine r_aload_n C 1 1 dL_law_1150 rfl rfl ?_
        refine r_aload_n C 0 0 dL_law_1151 rfl rfl ?_
        refine r_iload_n C 3 3 dL_law_1152 rfl rfl ?_
        refine r_iconst (v := (1 : Int32)) C dL_law_1153 rfl ?_
        refine r_iadd C dL_law_1154 ?_
        obtain ⟨h371, hF⟩ := ck_e hF
        refine r_scr C hN hxs ((v3 + (1 : Int32)).toNatClampNeg) dL_law_1155 h371 rfl ?_
        refine r_aload_n C 0 0 dL_law_1156 rfl rfl ?_
        refine r_iload_n C 3 3 dL_law_1157 rfl rfl ?_
        refine r_iconst (v := (2 : Int32)) C dL_law_1158 rfl ?_
        refine r_iadd C dL_law_1159 ?_
        obtain ⟨h372, hF⟩ := ck_e hF
        refine r_scr C hN hxs ((v3 + (2 : Int32)).toNatClampNeg) dL_law_1160 h372 rfl ?_
        refine r_aload_n C 0 0 dL_law_1161 rfl rfl ?_
        refine r_iload_n C 3 3 dL_law_1162 rfl rfl ?_
        refine r_iconst (v := (3 : Int32)) C dL_law_1163 rfl ?_
        refine r_iadd C dL_law_1164 ?_
        obtain ⟨h373, hF⟩ := ck_e hF
        refine r_scr C hN hxs ((v3 + (3 : Int32)).toNatClampNeg) dL_law_1165 h373 rfl ?_
        obtain ⟨r375, σ374, e376, hF⟩ := bd_e hF
        refine r_callV_i (as := [vI (xs ((v3 + (1 : Int32)).toNatClampNeg)), vI (xs ((v3 + (2 : Int32)).toNatClampNeg)), vI (xs ((v3 + (3 : Int32)).toNatClampNeg))]) (st := []) C dL_law_1166 (s_X10_cools G l e376) rfl rfl rfl t_4_187 t_4_188 t_4_189 t_1_1 t_4_190 m_X10_cools ⟨Nat.le_of_ble_eq_true rfl, Nat.le_of_ble_eq_true rfl⟩ ⟨rfl, rfl⟩ ⟨hcl, hsl⟩ rfl (Nat.le_of_ble_eq_true rfl) ?_
        refine r_aload_n C 2 2 dL_law_1169 rfl rfl ?_
        refine r_aload_n C 0 0 dL_law_1170 rfl rfl ?_
        refine r_iload_n C 3 3 dL_law_1171 rfl rfl ?_
        refine r_iconst (v := (1 : Int32)) C dL_law_1172 rfl ?_
        refine r_iadd C dL_law_1173 ?_
        obtain ⟨h377, hF⟩ := ck_e hF
        refine r_scr C hN hxs ((v3 + (1 : Int32)).toNatClampNeg) dL_law_1174 h377 rfl ?_
        refine r_aload_n C 0 0 dL_law_1175 rfl rfl ?_
        refine r_iload_n C 3 3 dL_law_1176 rfl rfl ?_
        refine r_iconst (v := (2 : Int32)) C dL_law_1177 rfl ?_
        refine r_iadd C dL_law_1178 ?_
        obtain ⟨h378, hF⟩ := ck_e hF
        refine r_scr C hN hxs ((v3 + (2 : Int32)).toNatClampNeg) dL_law_1179 h378 rfl ?_
        refine r_aload_n C 0 0 dL_law_1180 rfl rfl ?_
        refine r_iload_n C 3 3 dL_law_1181 rfl rfl ?_
        refine r_iconst (v := (3 : Int32)) C dL_law_1182 rfl ?_
        refine r_iadd C dL_law_1183 ?_
        obtain ⟨h379, hF⟩ := ck_e hF
        refine r_scr C hN hxs ((v3 + (3 : Int32)).toNatClampNeg) dL_law_1184 h379 rfl ?_
        obtain ⟨r381, σ380, e382, hF⟩ := bd_e hF
        refine r_callV_i (as := [vI (xs ((v3 + (1 : Int32)).toNatClampNeg)), vI (xs ((v3 + (2 : Int32)).toNatClampNeg)), vI (xs ((v3 + (3 : Int32)).toNatClampNeg))]) (st := [vI r375]) C dL_law_1185 (s_X11_cools G l e382) rfl rfl rfl t_6_202 t_6_203 t_6_204 t_1_14 t_6_205 m_X11_cools ⟨Nat.le_of_ble_eq_true rfl, Nat.le_of_ble_eq_true rfl⟩ ⟨rfl, rfl⟩ ⟨hcl, hsl⟩ rfl (Nat.le_of_ble_eq_true rfl) ?_
        refine r_icmp_eq C 1486 dL_law_1188 (by decide)  (fun h384 => ?_) (fun h384 => ?_)
        · have hF := if_t h384 hF
          obtain ⟨x383, ex383, hF⟩ := nam_e hF
          refine r_iinc (v := x383) (ls2 := [(3, vI x383), (0, vR (110, 0, 0)), (1, vR (0, 0, 0)), (2, vR (40, 0, 0))]) C 3 dL_law_1486 rfl ex383.symm (by decide) rfl ?_
          refine r_goto C 18 dL_law_1489 (by decide) ?_
          refine r_drop (ls2 := [(0, vR (110, 0, 0)), (1, vR (0, 0, 0)), (2, vR (40, 0, 0)), (3, vI x383)]) [1, 2, 3, 0] rfl ?_
          exact ih _ _ hF
        · have hF := if_f h384 hF
          refine r_iconst (v := (0 : Int32)) C dL_law_1191 rfl ?_
          exact absurd (rt_e hF).1 (by decide)
      have hF := if_f h370 hF
      by_cases h385 : ((xs (v3.toNatClampNeg)) &&& (63 : Int32)) = (27 : Int32)
      · have hF := if_t h385 hF
        refine r_tabIn (off := 1160) C 1193 dL_law_33 (by rw [h385]; decide) (by rw [h385]; decide) (by rw [h385]; rfl) (by decide) ?_
        refine r_aload_n C 1 1 dL_law_1193 rfl rfl ?_
        refine r_aload_n C 0 0 dL_law_1194 rfl rfl ?_
        refine r_iload_n C 3 3 dL_law_1195 rfl rfl ?_
        refine r_iconst (v := (1 : Int32)) C dL_law_1196 rfl ?_
        refine r_iadd C dL_law_1197 ?_
        obtain ⟨h386, hF⟩ := ck_e hF
        refine r_scr C hN hxs ((v3 + (1 : Int32)).toNatClampNeg) dL_law_1198 h386 rfl ?_
        refine r_aload_n C 0 0 dL_law_1199 rfl rfl ?_
        refine r_iload_n C 3 3 dL_law_1200 rfl rfl ?_
        refine r_iconst (v := (2 : Int32)) C dL_law_1201 rfl ?_
        refine r_iadd C dL_law_1202 ?_
        obtain ⟨h387, hF⟩ := ck_e hF
        refine r_scr C hN hxs ((v3 + (2 : Int32)).toNatClampNeg) dL_law_1203 h387 rfl ?_
        refine r_aload_n C 0 0 dL_law_1204 rfl rfl ?_
        refine r_iload_n C 3 3 dL_law_1205 rfl rfl ?_
        refine r_iconst (v := (3 : Int32)) C dL_law_1206 rfl ?_
        refine r_iadd C dL_law_1207 ?_
        obtain ⟨h388, hF⟩ := ck_e hF
        refine r_scr C hN hxs ((v3 + (3 : Int32)).toNatClampNeg) dL_law_1208 h388 rfl ?_
        obtain ⟨k390, ek390, hF⟩ := nam_e hF
        have hk390 : ∀ (y389 : Int32) (σ391 : St), k390 y389 σ391 = some ((1 : Int32), σ') → Rt G p l e room_1 s m #[Value.ref b] below meth c cells slots (lw_Z below #[Value.ref b] s) 4 1217 [(0, vR (110, 0, 0)), (1, vR (0, 0, 0)), (2, vR (40, 0, 0)), (3, vI v3)] [vI y389, vI (xs ((v3 + (2 : Int32)).toNatClampNeg)), vI (xs ((v3 + (1 : Int32)).toNatClampNeg)), vR (0, 0, 0)] σ391 := by
          intro y389 σ391 hF
          subst ek390
          refine r_aload_n C 0 0 dL_law_1217 rfl rfl ?_
          refine r_iload_n C 3 3 dL_law_1218 rfl rfl ?_
          refine r_iconst (v := (4 : Int32)) C dL_law_1219 rfl ?_
          refine r_iadd C dL_law_1220 ?_
          obtain ⟨h392, hF⟩ := ck_e hF
          refine r_scr C hN hxs ((v3 + (4 : Int32)).toNatClampNeg) dL_law_1221 h392 rfl ?_
          obtain ⟨r394, σ393, e395, hF⟩ := bd_e hF
          refine r_callV_i (as := [vI (xs ((v3 + (1 : Int32)).toNatClampNeg)), vI (xs ((v3 + (2 : Int32)).toNatClampNeg)), vI y389, vI (xs ((v3 + (4 : Int32)).toNatClampNeg))]) (st := []) C dL_law_1222 (s_X10_saw G l e395) rfl rfl rfl t_4_193 t_4_194 t_4_195 t_1_1 t_4_196 m_X10_saw ⟨Nat.le_of_ble_eq_true rfl, Nat.le_of_ble_eq_true rfl⟩ ⟨rfl, rfl⟩ ⟨hcl, hsl⟩ rfl (Nat.le_of_ble_eq_true rfl) ?_
          refine r_aload_n C 2 2 dL_law_1225 rfl rfl ?_
          refine r_aload_n C 0 0 dL_law_1226 rfl rfl ?_
          refine r_iload_n C 3 3 dL_law_1227 rfl rfl ?_
          refine r_iconst (v := (1 : Int32)) C dL_law_1228 rfl ?_
          refine r_iadd C dL_law_1229 ?_
          obtain ⟨h396, hF⟩ := ck_e hF
          refine r_scr C hN hxs ((v3 + (1 : Int32)).toNatClampNeg) dL_law_1230 h396 rfl ?_
          refine r_aload_n C 0 0 dL_law_1231 rfl rfl ?_
          refine r_iload_n C 3 3 dL_law_1232 rfl rfl ?_
          refine r_iconst (v := (2 : Int32)) C dL_law_1233 rfl ?_
          refine r_iadd C dL_law_1234 ?_
          obtain ⟨h397, hF⟩ := ck_e hF
          refine r_scr C hN hxs ((v3 + (2 : Int32)).toNatClampNeg) dL_law_1235 h397 rfl ?_
          refine r_aload_n C 0 0 dL_law_1236 rfl rfl ?_
          refine r_iload_n C 3 3 dL_law_1237 rfl rfl ?_
          refine r_iconst (v := (3 : Int32)) C dL_law_1238 rfl ?_
          refine r_iadd C dL_law_1239 ?_
          obtain ⟨h398, hF⟩ := ck_e hF
          refine r_scr C hN hxs ((v3 + (3 : Int32)).toNatClampNeg) dL_law_1240 h398 rfl ?_
          obtain ⟨k400, ek400, hF⟩ := nam_e hF
          have hk400 : ∀ (y399 : Int32) (σ401 : St), k400 y399 σ401 = some ((1 : Int32), σ') → Rt G p l e room_1 s m #[Value.ref b] below meth c cells slots (lw_Z below #[Value.ref b] s) 4 1249 [(0, vR (110, 0, 0)), (1, vR (0, 0, 0)), (2, vR (40, 0, 0)), (3, vI v3)] [vI y399, vI (xs ((v3 + (2 : Int32)).toNatClampNeg)), vI (xs ((v3 + (1 : Int32)).toNatClampNeg)), vR (40, 0, 0), vI r394] σ401 := by
            intro y399 σ401 hF
            subst ek400
            refine r_aload_n C 0 0 dL_law_1249 rfl rfl ?_
            refine r_iload_n C 3 3 dL_law_1250 rfl rfl ?_
            refine r_iconst (v := (4 : Int32)) C dL_law_1251 rfl ?_
            refine r_iadd C dL_law_1252 ?_
            obtain ⟨h402, hF⟩ := ck_e hF
            refine r_scr C hN hxs ((v3 + (4 : Int32)).toNatClampNeg) dL_law_1253 h402 rfl ?_
            obtain ⟨r404, σ403, e405, hF⟩ := bd_e hF
            refine r_callV_i (as := [vI (xs ((v3 + (1 : Int32)).toNatClampNeg)), vI (xs ((v3 + (2 : Int32)).toNatClampNeg)), vI y399, vI (xs ((v3 + (4 : Int32)).toNatClampNeg))]) (st := [vI r394]) C dL_law_1254 (s_X11_saw G l e405) rfl rfl rfl t_6_206 t_6_207 t_6_208 t_1_14 t_6_209 m_X11_saw ⟨Nat.le_of_ble_eq_true rfl, Nat.le_of_ble_eq_true rfl⟩ ⟨rfl, rfl⟩ ⟨hcl, hsl⟩ rfl (Nat.le_of_ble_eq_true rfl) ?_
            refine r_icmp_eq C 1486 dL_law_1257 (by decide)  (fun h407 => ?_) (fun h407 => ?_)
            · have hF := if_t h407 hF
              obtain ⟨x406, ex406, hF⟩ := nam_e hF
              refine r_iinc (v := x406) (ls2 := [(3, vI x406), (0, vR (110, 0, 0)), (1, vR (0, 0, 0)), (2, vR (40, 0, 0))]) C 3 dL_law_1486 rfl ex406.symm (by decide) rfl ?_
              refine r_goto C 18 dL_law_1489 (by decide) ?_
              refine r_drop (ls2 := [(0, vR (110, 0, 0)), (1, vR (0, 0, 0)), (2, vR (40, 0, 0)), (3, vI x406)]) [1, 2, 3, 0] rfl ?_
              exact ih _ _ hF
            · have hF := if_f h407 hF
              refine r_iconst (v := (0 : Int32)) C dL_law_1260 rfl ?_
              exact absurd (rt_e hF).1 (by decide)
          refine r_if_eq C 1248 dL_law_1241 (by decide)  (fun h408 => ?_) (fun h408 => ?_)
          · have hF := if_t h408 hF
            refine r_iconst (v := (0 : Int32)) C dL_law_1248 rfl ?_
            exact hk400 _ _ hF
          · have hF := if_f h408 hF
            refine r_iconst (v := (1 : Int32)) C dL_law_1244 rfl ?_
            refine r_goto C 1249 dL_law_1245 (by decide) ?_
            exact hk400 _ _ hF
        refine r_if_eq C 1216 dL_law_1209 (by decide)  (fun h409 => ?_) (fun h409 => ?_)
        · have hF := if_t h409 hF
          refine r_iconst (v := (0 : Int32)) C dL_law_1216 rfl ?_
          exact hk390 _ _ hF
        · have hF := if_f h409 hF
          refine r_iconst (v := (1 : Int32)) C dL_law_1212 rfl ?_
          refine r_goto C 1217 dL_law_1213 (by decide) ?_
          exact hk390 _ _ hF
      have hF := if_f h385 hF
      by_cases h410 : ((xs (v3.toNatClampNeg)) &&& (63 : Int32)) = (28 : Int32)
      · have hF := if_t h410 hF
        refine r_tabIn (off := 1229) C 1262 dL_law_33 (by rw [h410]; decide) (by rw [h410]; decide) (by rw [h410]; rfl) (by decide) ?_
        refine r_aload_n C 1 1 dL_law_1262 rfl rfl ?_
        obtain ⟨r412, σ411, e413, hF⟩ := bd_e hF
        refine r_callV_i (as := []) (st := []) C dL_law_1263 (s_X10_forget G l e413) rfl rfl rfl t_4_201 t_4_202 t_4_203 t_1_1 t_4_204 m_X10_forget ⟨Nat.le_of_ble_eq_true rfl, Nat.le_of_ble_eq_true rfl⟩ ⟨rfl, rfl⟩ ⟨hcl, hsl⟩ rfl (Nat.le_of_ble_eq_true rfl) ?_
        refine r_aload_n C 2 2 dL_law_1266 rfl rfl ?_
        obtain ⟨r415, σ414, e416, hF⟩ := bd_e hF
        refine r_callV_i (as := []) (st := [vI r412]) C dL_law_1267 (s_X11_forget G l e416) rfl rfl rfl t_6_210 t_6_211 t_6_212 t_1_14 t_6_213 m_X11_forget ⟨Nat.le_of_ble_eq_true rfl, Nat.le_of_ble_eq_true rfl⟩ ⟨rfl, rfl⟩ ⟨hcl, hsl⟩ rfl (Nat.le_of_ble_eq_true rfl) ?_
        refine r_icmp_eq C 1486 dL_law_1270 (by decide)  (fun h418 => ?_) (fun h418 => ?_)
        · have hF := if_t h418 hF
          obtain ⟨x417, ex417, hF⟩ := nam_e hF
          refine r_iinc (v := x417) (ls2 := [(3, vI x417), (0, vR (110, 0, 0)), (1, vR (0, 0, 0)), (2, vR (40, 0, 0))]) C 3 dL_law_1486 rfl ex417.symm (by decide) rfl ?_
          refine r_goto C 18 dL_law_1489 (by decide) ?_
          refine r_drop (ls2 := [(0, vR (110, 0, 0)), (1, vR (0, 0, 0)), (2, vR (40, 0, 0)), (3, vI x417)]) [1, 2, 3, 0] rfl ?_
          exact ih _ _ hF
        · have hF := if_f h418 hF
          refine r_iconst (v := (0 : Int32)) C dL_law_1273 rfl ?_
          exact absurd (rt_e hF).1 (by decide)
      have hF := if_f h410 hF
      by_cases h419 : ((xs (v3.toNatClampNeg)) &&& (63 : Int32)) = (29 : Int32)
      · have hF := if_t h419 hF
        refine r_tabIn (off := 1242) C 1275 dL_law_33 (by rw [h419]; decide) (by rw [h419]; decide) (by rw [h419]; rfl) (by decide) ?_
        refine r_aload_n C 1 1 dL_law_1275 rfl rfl ?_
        refine r_aload_n C 0 0 dL_law_1276 rfl rfl ?_
        refine r_iload_n C 3 3 dL_law_1277 rfl rfl ?_
        refine r_iconst (v := (1 : Int32)) C dL_law_1278 rfl ?_
        refine r_iadd C dL_law_1279 ?_
        obtain ⟨h420, hF⟩ := ck_e hF
        refine r_scr C hN hxs ((v3 + (1 : Int32)).toNatClampNeg) dL_law_1280 h420 rfl ?_
        obtain ⟨r422, σ421, e423, hF⟩ := bd_e hF
        refine r_callV_i (as := [vI (xs ((v3 + (1 : Int32)).toNatClampNeg))]) (st := []) C dL_law_1281 (s_X10_fits G l e423) rfl rfl rfl t_4_205 t_4_206 t_4_207 t_1_1 t_4_208 m_X10_fits ⟨Nat.le_of_ble_eq_true rfl, Nat.le_of_ble_eq_true rfl⟩ ⟨rfl, rfl⟩ ⟨hcl, hsl⟩ rfl (Nat.le_of_ble_eq_true rfl) ?_
        refine r_aload_n C 2 2 dL_law_1284 rfl rfl ?_
        refine r_aload_n C 0 0 dL_law_1285 rfl rfl ?_
        refine r_iload_n C 3 3 dL_law_1286 rfl rfl ?_
        refine r_iconst (v := (1 : Int32)) C dL_law_1287 rfl ?_
        refine r_iadd C dL_law_1288 ?_
        obtain ⟨h424, hF⟩ := ck_e hF
        refine r_scr C hN hxs ((v3 + (1 : Int32)).toNatClampNeg) dL_law_1289 h424 rfl ?_
        obtain ⟨r426, σ425, e427, hF⟩ := bd_e hF
        refine r_callV_i (as := [vI (xs ((v3 + (1 : Int32)).toNatClampNeg))]) (st := [vI r422]) C dL_law_1290 (s_X11_fits G l e427) rfl rfl rfl t_6_222 t_6_223 t_6_224 t_1_14 t_6_225 m_X11_fits ⟨Nat.le_of_ble_eq_true rfl, Nat.le_of_ble_eq_true rfl⟩ ⟨rfl, rfl⟩ ⟨hcl, hsl⟩ rfl (Nat.le_of_ble_eq_true rfl) ?_
        refine r_icmp_eq C 1486 dL_law_1293 (by decide)  (fun h429 => ?_) (fun h429 => ?_)
        · have hF := if_t h429 hF
          obtain ⟨x428, ex428, hF⟩ := nam_e hF
          refine r_iinc (v := x428) (ls2 := [(3, vI x428), (0, vR (110, 0, 0)), (1, vR (0, 0, 0)), (2, vR (40, 0, 0))]) C 3 dL_law_1486 rfl ex428.symm (by decide) rfl ?_
          refine r_goto C 18 dL_law_1489 (by decide) ?_
          refine r_drop (ls2 := [(0, vR (110, 0, 0)), (1, vR (0, 0, 0)), (2, vR (40, 0, 0)), (3, vI x428)]) [1, 2, 3, 0] rfl ?_
          exact ih _ _ hF
        · have hF := if_f h429 hF
          refine r_iconst (v := (0 : Int32)) C dL_law_1296 rfl ?_
          exact absurd (rt_e hF).1 (by decide)
      have hF := if_f h419 hF
      by_cases h430 : ((xs (v3.toNatClampNeg)) &&& (63 : Int32)) = (30 : Int32)
      · have hF := if_t h430 hF
        refine r_tabIn (off := 1265) C 1298 dL_law_33 (by rw [h430]; decide) (by rw [h430]; decide) (by rw [h430]; rfl) (by decide) ?_
        refine r_aload_n C 1 1 dL_law_1298 rfl rfl ?_
        obtain ⟨r432, σ431, e433, hF⟩ := bd_e hF
        refine r_callV_i (as := []) (st := []) C dL_law_1299 (s_X10_right G l e433) rfl rfl rfl t_4_221 t_4_222 t_4_223 t_1_1 t_4_224 m_X10_right ⟨Nat.le_of_ble_eq_true rfl, Nat.le_of_ble_eq_true rfl⟩ ⟨rfl, rfl⟩ ⟨hcl, hsl⟩ rfl (Nat.le_of_ble_eq_true rfl) ?_
        refine r_aload_n C 2 2 dL_law_1302 rfl rfl ?_
        obtain ⟨r435, σ434, e436, hF⟩ := bd_e hF
        refine r_callV_i (as := []) (st := [vI r432]) C dL_law_1303 (s_X11_right G l e436) rfl rfl rfl t_6_214 t_6_215 t_6_216 t_1_14 t_6_217 m_X11_right ⟨Nat.le_of_ble_eq_true rfl, Nat.le_of_ble_eq_true rfl⟩ ⟨rfl, rfl⟩ ⟨hcl, hsl⟩ rfl (Nat.le_of_ble_eq_true rfl) ?_
        refine r_icmp_eq C 1486 dL_law_1306 (by decide)  (fun h438 => ?_) (fun h438 => ?_)
        · have hF := if_t h438 hF
          obtain ⟨x437, ex437, hF⟩ := nam_e hF
          refine r_iinc (v := x437) (ls2 := [(3, vI x437), (0, vR (110, 0, 0)), (1, vR (0, 0, 0)), (2, vR (40, 0, 0))]) C 3 dL_law_1486 rfl ex437.symm (by decide) rfl ?_
          refine r_goto C 18 dL_law_1489 (by decide) ?_
          refine r_drop (ls2 := [(0, vR (110, 0, 0)), (1, vR (0, 0, 0)), (2, vR (40, 0, 0)), (3, vI x437)]) [1, 2, 3, 0] rfl ?_
          exact ih _ _ hF
        · have hF := if_f h438 hF
          refine r_iconst (v := (0 : Int32)) C dL_law_1309 rfl ?_
          exact absurd (rt_e hF).1 (by decide)
      have hF := if_f h430 hF
      by_cases h439 : ((xs (v3.toNatClampNeg)) &&& (63 : Int32)) = (31 : Int32)
      · have hF := if_t h439 hF
        refine r_tabIn (off := 1278) C 1311 dL_law_33 (by rw [h439]; decide) (by rw [h439]; decide) (by rw [h439]; rfl) (by decide) ?_
        refine r_aload_n C 1 1 dL_law_1311 rfl rfl ?_
        refine r_aload_n C 0 0 dL_law_1312 rfl rfl ?_
        refine r_iload_n C 3 3 dL_law_1313 rfl rfl ?_
        refine r_iconst (v := (1 : Int32)) C dL_law_1314 rfl ?_
        refine r_iadd C dL_law_1315 ?_
        obtain ⟨h440, hF⟩ := ck_e hF
        refine r_scr C hN hxs ((v3 + (1 : Int32)).toNatClampNeg) dL_law_1316 h440 rfl ?_
        refine r_aload_n C 0 0 dL_law_1317 rfl rfl ?_
        refine r_iload_n C 3 3 dL_law_1318 rfl rfl ?_
        refine r_iconst (v := (2 : Int32)) C dL_law_1319 rfl ?_
        refine r_iadd C dL_law_1320 ?_
        obtain ⟨h441, hF⟩ := ck_e hF
        refine r_scr C hN hxs ((v3 + (2 : Int32)).toNatClampNeg) dL_law_1321 h441 rfl ?_
        refine r_aload_n C 0 0 dL_law_1322 rfl rfl ?_
        refine r_iload_n C 3 3 dL_law_1323 rfl rfl ?_
        refine r_iconst (v := (3 : Int32)) C dL_law_1324 rfl ?_
        refine r_iadd C dL_law_1325 ?_
        obtain ⟨h442, hF⟩ := ck_e hF
        refine r_scr C hN hxs ((v3 + (3 : Int32)).toNatClampNeg) dL_law_1326 h442 rfl ?_
        obtain ⟨r444, σ443, e445, hF⟩ := bd_e hF
        refine r_callV_i (as := [vI (xs ((v3 + (1 : Int32)).toNatClampNeg)), vI (xs ((v3 + (2 : Int32)).toNatClampNeg)), vI (xs ((v3 + (3 : Int32)).toNatClampNeg))]) (st := []) C dL_law_1327 (s_X10_sheet G l e445) rfl rfl rfl t_4_226 t_4_227 t_4_228 t_1_1 t_4_229 m_X10_sheet ⟨Nat.le_of_ble_eq_true rfl, Nat.le_of_ble_eq_true rfl⟩ ⟨rfl, rfl⟩ ⟨hcl, hsl⟩ rfl (Nat.le_of_ble_eq_true rfl) ?_
        refine r_aload_n C 2 2 dL_law_1330 rfl rfl ?_
        refine r_aload_n C 0 0 dL_law_1331 rfl rfl ?_
        refine r_iload_n C 3 3 dL_law_1332 rfl rfl ?_
        refine r_iconst (v := (1 : Int32)) C dL_law_1333 rfl ?_
        refine r_iadd C dL_law_1334 ?_
        obtain ⟨h446, hF⟩ := ck_e hF
        refine r_scr C hN hxs ((v3 + (1 : Int32)).toNatClampNeg) dL_law_1335 h446 rfl ?_
        refine r_aload_n C 0 0 dL_law_1336 rfl rfl ?_
        refine r_iload_n C 3 3 dL_law_1337 rfl rfl ?_
        refine r_iconst (v := (2 : Int32)) C dL_law_1338 rfl ?_
        refine r_iadd C dL_law_1339 ?_
        obtain ⟨h447, hF⟩ := ck_e hF
        refine r_scr C hN hxs ((v3 + (2 : Int32)).toNatClampNeg) dL_law_1340 h447 rfl ?_
        refine r_aload_n C 0 0 dL_law_1341 rfl rfl ?_
        refine r_iload_n C 3 3 dL_law_1342 rfl rfl ?_
        refine r_iconst (v := (3 : Int32)) C dL_law_1343 rfl ?_
        refine r_iadd C dL_law_1344 ?_
        obtain ⟨h448, hF⟩ := ck_e hF
        refine r_scr C hN hxs ((v3 + (3 : Int32)).toNatClampNeg) dL_law_1345 h448 rfl ?_
        obtain ⟨r450, σ449, e451, hF⟩ := bd_e hF
        refine r_callV_i (as := [vI (xs ((v3 + (1 : Int32)).toNatClampNeg)), vI (xs ((v3 + (2 : Int32)).toNatClampNeg)), vI (xs ((v3 + (3 : Int32)).toNatClampNeg))]) (st := [vI r444]) C dL_law_1346 (s_X11_sheet G l e451) rfl rfl rfl t_6_227 t_6_228 t_6_229 t_1_14 t_6_230 m_X11_sheet ⟨Nat.le_of_ble_eq_true rfl, Nat.le_of_ble_eq_true rfl⟩ ⟨rfl, rfl⟩ ⟨hcl, hsl⟩ rfl (Nat.le_of_ble_eq_true rfl) ?_
        refine r_icmp_eq C 1486 dL_law_1349 (by decide)  (fun h453 => ?_) (fun h453 => ?_)
        · have hF := if_t h453 hF
          obtain ⟨x452, ex452, hF⟩ := nam_e hF
          refine r_iinc (v := x452) (ls2 := [(3, vI x452), (0, vR (110, 0, 0)), (1, vR (0, 0, 0)), (2, vR (40, 0, 0))]) C 3 dL_law_1486 rfl ex452.symm (by decide) rfl ?_
          refine r_goto C 18 dL_law_1489 (by decide) ?_
          refine r_drop (ls2 := [(0, vR (110, 0, 0)), (1, vR (0, 0, 0)), (2, vR (40, 0, 0)), (3, vI x452)]) [1, 2, 3, 0] rfl ?_
          exact ih _ _ hF
        · have hF := if_f h453 hF
          refine r_iconst (v := (0 : Int32)) C dL_law_1352 rfl ?_
          exact absurd (rt_e hF).1 (by decide)
      have hF := if_f h439 hF
      by_cases h454 : ((xs (v3.toNatClampNeg)) &&& (63 : Int32)) = (32 : Int32)
      · have hF := if_t h454 hF
        refine r_tabIn (off := 1321) C 1354 dL_law_33 (by rw [h454]; decide) (by rw [h454]; decide) (by rw [h454]; rfl) (by decide) ?_
        refine r_aload_n C 1 1 dL_law_1354 rfl rfl ?_
        refine r_aload_n C 0 0 dL_law_1355 rfl rfl ?_
        refine r_iload_n C 3 3 dL_law_1356 rfl rfl ?_
        refine r_iconst (v := (1 : Int32)) C dL_law_1357 rfl ?_
        refine r_iadd C dL_law_1358 ?_
        obtain ⟨h455, hF⟩ := ck_e hF
        refine r_scr C hN hxs ((v3 + (1 : Int32)).toNatClampNeg) dL_law_1359 h455 rfl ?_
        refine r_aload_n C 0 0 dL_law_1360 rfl rfl ?_
        refine r_iload_n C 3 3 dL_law_1361 rfl rfl ?_
        refine r_iconst (v := (2 : Int32)) C dL_law_1362 rfl ?_
        refine r_iadd C dL_law_1363 ?_
        obtain ⟨h456, hF⟩ := ck_e hF
        refine r_scr C hN hxs ((v3 + (2 : Int32)).toNatClampNeg) dL_law_1364 h456 rfl ?_
        refine r_aload_n C 0 0 dL_law_1365 rfl rfl ?_
        refine r_iload_n C 3 3 dL_law_1366 rfl rfl ?_
        refine r_iconst (v := (3 : Int32)) C dL_law_1367 rfl ?_
        refine r_iadd C dL_law_1368 ?_
        obtain ⟨h457, hF⟩ := ck_e hF
        refine r_scr C hN hxs ((v3 + (3 : Int32)).toNatClampNeg) dL_law_1369 h457 rfl ?_
        obtain ⟨r459, σ458, e460, hF⟩ := bd_e hF
        refine r_callV_i (as := [vI (xs ((v3 + (1 : Int32)).toNatClampNeg)), vI (xs ((v3 + (2 : Int32)).toNatClampNeg)), vI (xs ((v3 + (3 : Int32)).toNatClampNeg))]) (st := []) C dL_law_1370 (s_X10_lay G l e460) rfl rfl rfl t_5_1 t_5_2 t_5_3 t_1_1 t_5_4 m_X10_lay ⟨Nat.le_of_ble_eq_true rfl, Nat.le_of_ble_eq_true rfl⟩ ⟨rfl, rfl⟩ ⟨hcl, hsl⟩ rfl (Nat.le_of_ble_eq_true rfl) ?_
        refine r_aload_n C 2 2 dL_law_1373 rfl rfl ?_
        refine r_aload_n C 0 0 dL_law_1374 rfl rfl ?_
        refine r_iload_n C 3 3 dL_law_1375 rfl rfl ?_
        refine r_iconst (v := (1 : Int32)) C dL_law_1376 rfl ?_
        refine r_iadd C dL_law_1377 ?_
        obtain ⟨h461, hF⟩ := ck_e hF
        refine r_scr C hN hxs ((v3 + (1 : Int32)).toNatClampNeg) dL_law_1378 h461 rfl ?_
        refine r_aload_n C 0 0 dL_law_1379 rfl rfl ?_
        refine r_iload_n C 3 3 dL_law_1380 rfl rfl ?_
        refine r_iconst (v := (2 : Int32)) C dL_law_1381 rfl ?_
        refine r_iadd C dL_law_1382 ?_
        obtain ⟨h462, hF⟩ := ck_e hF
        refine r_scr C hN hxs ((v3 + (2 : Int32)).toNatClampNeg) dL_law_1383 h462 rfl ?_
        refine r_aload_n C 0 0 dL_law_1384 rfl rfl ?_
        refine r_iload_n C 3 3 dL_law_1385 rfl rfl ?_
        refine r_iconst (v := (3 : Int32)) C dL_law_1386 rfl ?_
        refine r_iadd C dL_law_1387 ?_
        obtain ⟨h463, hF⟩ := ck_e hF
        refine r_scr C hN hxs ((v3 + (3 : Int32)).toNatClampNeg) dL_law_1388 h463 rfl ?_
        obtain ⟨r465, σ464, e466, hF⟩ := bd_e hF
        refine r_callV_i (as := [vI (xs ((v3 + (1 : Int32)).toNatClampNeg)), vI (xs ((v3 + (2 : Int32)).toNatClampNeg)), vI (xs ((v3 + (3 : Int32)).toNatClampNeg))]) (st := [vI r459]) C dL_law_1389 (s_X11_lay G l e466) rfl rfl rfl t_6_234 t_6_235 t_6_236 t_1_14 t_6_237 m_X11_lay ⟨Nat.le_of_ble_eq_true rfl, Nat.le_of_ble_eq_true rfl⟩ ⟨rfl, rfl⟩ ⟨hcl, hsl⟩ rfl (Nat.le_of_ble_eq_true rfl) ?_
        refine r_icmp_eq C 1486 dL_law_1392 (by decide)  (fun h468 => ?_) (fun h468 => ?_)
        · have hF := if_t h468 hF
          obtain ⟨x467, ex467, hF⟩ := nam_e hF
          refine r_iinc (v := x467) (ls2 := [(3, vI x467), (0, vR (110, 0, 0)), (1, vR (0, 0, 0)), (2, vR (40, 0, 0))]) C 3 dL_law_1486 rfl ex467.symm (by decide) rfl ?_
          refine r_goto C 18 dL_law_1489 (by decide) ?_
          refine r_drop (ls2 := [(0, vR (110, 0, 0)), (1, vR (0, 0, 0)), (2, vR (40, 0, 0)), (3, vI x467)]) [1, 2, 3, 0] rfl ?_
          exact ih _ _ hF
        · have hF := if_f h468 hF
          refine r_iconst (v := (0 : Int32)) C dL_law_1395 rfl ?_
          exact absurd (rt_e hF).1 (by decide)
      have hF := if_f h454 hF
      by_cases h469 : ((xs (v3.toNatClampNeg)) &&& (63 : Int32)) = (33 : Int32)
      · have hF := if_t h469 hF
        refine r_tabIn (off := 1364) C 1397 dL_law_33 (by rw [h469]; decide) (by rw [h469]; decide) (by rw [h469]; rfl) (by decide) ?_
        refine r_aload_n C 1 1 dL_law_1397 rfl rfl ?_
        refine r_aload_n C 0 0 dL_law_1398 rfl rfl ?_
        refine r_iload_n C 3 3 dL_law_1399 rfl rfl ?_
        refine r_iconst (v := (1 : Int32)) C dL_law_1400 rfl ?_
        refine r_iadd C dL_law_1401 ?_
        obtain ⟨h470, hF⟩ := ck_e hF
        refine r_scr C hN hxs ((v3 + (1 : Int32)).toNatClampNeg) dL_law_1402 h470 rfl ?_
        refine r_aload_n C 0 0 dL_law_1403 rfl rfl ?_
        refine r_iload_n C 3 3 dL_law_1404 rfl rfl ?_
        refine r_iconst (v := (2 : Int32)) C dL_law_1405 rfl ?_
        refine r_iadd C dL_law_1406 ?_
        obtain ⟨h471, hF⟩ := ck_e hF
        refine r_scr C hN hxs ((v3 + (2 : Int32)).toNatClampNeg) dL_law_1407 h471 rfl ?_
        refine r_aload_n C 0 0 dL_law_1408 rfl rfl ?_
        refine r_iload_n C 3 3 dL_law_1409 rfl rfl ?_
        refine r_iconst (v := (3 : Int32)) C dL_law_1410 rfl ?_
        refine r_iadd C dL_law_1411 ?_
        obtain ⟨h472, hF⟩ := ck_e hF
        refine r_scr C hN hxs ((v3 + (3 : Int32)).toNatClampNeg) dL_law_1412 h472 rfl ?_
        refine r_aload_n C 0 0 dL_law_1413 rfl rfl ?_
        refine r_iload_n C 3 3 dL_law_1414 rfl rfl ?_
        refine r_iconst (v := (4 : Int32)) C dL_law_1415 rfl ?_
        refine r_iadd C dL_law_1416 ?_
        obtain ⟨h473, hF⟩ := ck_e hF
        refine r_scr C hN hxs ((v3 + (4 : Int32)).toNatClampNeg) dL_law_1417 h473 rfl ?_
        obtain ⟨r475, σ474, e476, hF⟩ := bd_e hF
        refine r_callV_i (as := [vI (xs ((v3 + (1 : Int32)).toNatClampNeg)), vI (xs ((v3 + (2 : Int32)).toNatClampNeg)), vI (xs ((v3 + (3 : Int32)).toNatClampNeg)), vI (xs ((v3 + (4 : Int32)).toNatClampNeg))]) (st := []) C dL_law_1418 (s_X10_read G l e476) rfl rfl rfl t_5_14 t_5_15 t_5_16 t_1_1 t_5_17 m_X10_read ⟨Nat.le_of_ble_eq_true rfl, Nat.le_of_ble_eq_true rfl⟩ ⟨rfl, rfl⟩ ⟨hcl, hsl⟩ rfl (Nat.le_of_ble_eq_true rfl) ?_
        refine r_aload_n C 2 2 dL_law_1421 rfl rfl ?_
        refine r_aload_n C 0 0 dL_law_1422 rfl rfl ?_
        refine r_iload_n C 3 3 dL_law_1423 rfl rfl ?_
        refine r_iconst (v := (1 : Int32)) C dL_law_1424 rfl ?_
        refine r_iadd C dL_law_1425 ?_
        obtain ⟨h477, hF⟩ := ck_e hF
        refine r_scr C hN hxs ((v3 + (1 : Int32)).toNatClampNeg) dL_law_1426 h477 rfl ?_
        refine r_aload_n C 0 0 dL_law_1427 rfl rfl ?_
        refine r_iload_n C 3 3 dL_law_1428 rfl rfl ?_
        refine r_iconst (v := (2 : Int32)) C dL_law_1429 rfl ?_
        refine r_iadd C dL_law_1430 ?_
        obtain ⟨h478, hF⟩ := ck_e hF
        refine r_scr C hN hxs ((v3 + (2 : Int32)).toNatClampNeg) dL_law_1431 h478 rfl ?_
        refine r_aload_n C 0 0 dL_law_1432 rfl rfl ?_
        refine r_iload_n C 3 3 dL_law_1433 rfl rfl ?_
        refine r_iconst (v := (3 : Int32)) C dL_law_1434 rfl ?_
        refine r_iadd C dL_law_1435 ?_
        obtain ⟨h479, hF⟩ := ck_e hF
        refine r_scr C hN hxs ((v3 + (3 : Int32)).toNatClampNeg) dL_law_1436 h479 rfl ?_
        refine r_aload_n C 0 0 dL_law_1437 rfl rfl ?_
        refine r_iload_n C 3 3 dL_law_1438 rfl rfl ?_
        refine r_iconst (v := (4 : Int32)) C dL_law_1439 rfl ?_
        refine r_iadd C dL_law_1440 ?_
        obtain ⟨h480, hF⟩ := ck_e hF
        refine r_scr C hN hxs ((v3 + (4 : Int32)).toNatClampNeg) dL_law_1441 h480 rfl ?_
        obtain ⟨r482, σ481, e483, hF⟩ := bd_e hF
        refine r_callV_i (as := [vI (xs ((v3 + (1 : Int32)).toNatClampNeg)), vI (xs ((v3 + (2 : Int32)).toNatClampNeg)), vI (xs ((v3 + (3 : Int32)).toNatClampNeg)), vI (xs ((v3 + (4 : Int32)).toNatClampNeg))]) (st := [vI r475]) C dL_law_1442 (s_X11_read G l e483) rfl rfl rfl t_6_238 t_6_239 t_7_0 t_1_14 t_7_1 m_X11_read ⟨Nat.le_of_ble_eq_true rfl, Nat.le_of_ble_eq_true rfl⟩ ⟨rfl, rfl⟩ ⟨hcl, hsl⟩ rfl (Nat.le_of_ble_eq_true rfl) ?_
        refine r_icmp_eq C 1486 dL_law_1445 (by decide)  (fun h485 => ?_) (fun h485 => ?_)
        · have hF := if_t h485 hF
          obtain ⟨x484, ex484, hF⟩ := nam_e hF
          refine r_iinc (v := x484) (ls2 := [(3, vI x484), (0, vR (110, 0, 0)), (1, vR (0, 0, 0)), (2, vR (40, 0, 0))]) C 3 dL_law_1486 rfl ex484.symm (by decide) rfl ?_
          refine r_goto C 18 dL_law_1489 (by decide) ?_
          refine r_drop (ls2 := [(0, vR (110, 0, 0)), (1, vR (0, 0, 0)), (2, vR (40, 0, 0)), (3, vI x484)]) [1, 2, 3, 0] rfl ?_
          exact ih _ _ hF
        · have hF := if_f h485 hF
          refine r_iconst (v := (0 : Int32)) C dL_law_1448 rfl ?_
          exact absurd (rt_e hF).1 (by decide)
      have hF := if_f h469 hF
      by_cases h486 : ((xs (v3.toNatClampNeg)) &&& (63 : Int32)) = (34 : Int32)
      · have hF := if_t h486 hF
        refine r_tabIn (off := 1417) C 1450 dL_law_33 (by rw [h486]; decide) (by rw [h486]; decide) (by rw [h486]; rfl) (by decide) ?_
        refine r_aload_n C 1 1 dL_law_1450 rfl rfl ?_
        obtain ⟨r488, σ487, e489, hF⟩ := bd_e hF
        refine r_callV_i (as := []) (st := []) C dL_law_1451 (s_X10_torn G l e489) rfl rfl rfl t_5_26 t_5_27 t_5_28 t_1_1 t_5_29 m_X10_torn ⟨Nat.le_of_ble_eq_true rfl, Nat.le_of_ble_eq_true rfl⟩ ⟨rfl, rfl⟩ ⟨hcl, hsl⟩ rfl (Nat.le_of_ble_eq_true rfl) ?_
        refine r_aload_n C 2 2 dL_law_1454 rfl rfl ?_
        obtain ⟨r491, σ490, e492, hF⟩ := bd_e hF
        refine r_callV_i (as := []) (st := [vI r488]) C dL_law_1455 (s_X11_torn G l e492) rfl rfl rfl t_7_8 t_7_9 t_7_10 t_1_14 t_7_11 m_X11_torn ⟨Nat.le_of_ble_eq_true rfl, Nat.le_of_ble_eq_true rfl⟩ ⟨rfl, rfl⟩ ⟨hcl, hsl⟩ rfl (Nat.le_of_ble_eq_true rfl) ?_
        refine r_icmp_eq C 1486 dL_law_1458 (by decide)  (fun h494 => ?_) (fun h494 => ?_)
        · have hF := if_t h494 hF
          obtain ⟨x493, ex493, hF⟩ := nam_e hF
          refine r_iinc (v := x493) (ls2 := [(3, vI x493), (0, vR (110, 0, 0)), (1, vR (0, 0, 0)), (2, vR (40, 0, 0))]) C 3 dL_law_1486 rfl ex493.symm (by decide) rfl ?_
          refine r_goto C 18 dL_law_1489 (by decide) ?_
          refine r_drop (ls2 := [(0, vR (110, 0, 0)), (1, vR (0, 0, 0)), (2, vR (40, 0, 0)), (3, vI x493)]) [1, 2, 3, 0] rfl ?_
          exact ih _ _ hF
        · have hF := if_f h494 hF
          refine r_iconst (v := (0 : Int32)) C dL_law_1461 rfl ?_
          exact absurd (rt_e hF).1 (by decide)
      have hF := if_f h486 hF
      by_cases h495 : ((xs (v3.toNatClampNeg)) &&& (63 : Int32)) = (35 : Int32)
      · have hF := if_t h495 hF
        refine r_tabIn (off := 1430) C 1463 dL_law_33 (by rw [h495]; decide) (by rw [h495]; decide) (by rw [h495]; rfl) (by decide) ?_
        refine r_aload_n C 1 1 dL_law_1463 rfl rfl ?_
        refine r_aload_n C 0 0 dL_law_1464 rfl rfl ?_
        refine r_iload_n C 3 3 dL_law_1465 rfl rfl ?_
        refine r_iconst (v := (1 : Int32)) C dL_law_1466 rfl ?_
        refine r_iadd C dL_law_1467 ?_
        obtain ⟨h496, hF⟩ := ck_e hF
        refine r_scr C hN hxs ((v3 + (1 : Int32)).toNatClampNeg) dL_law_1468 h496 rfl ?_
        obtain ⟨r498, σ497, e499, hF⟩ := bd_e hF
        refine r_callV_i (as := [vI (xs ((v3 + (1 : Int32)).toNatClampNeg))]) (st := []) C dL_law_1469 (s_X10_count G l e499) rfl rfl rfl t_5_30 t_5_31 t_5_32 t_1_1 t_5_33 m_X10_count ⟨Nat.le_of_ble_eq_true rfl, Nat.le_of_ble_eq_true rfl⟩ ⟨rfl, rfl⟩ ⟨hcl, hsl⟩ rfl (Nat.le_of_ble_eq_true rfl) ?_
        refine r_aload_n C 2 2 dL_law_1472 rfl rfl ?_
        refine r_aload_n C 0 0 dL_law_1473 rfl rfl ?_
        refine r_iload_n C 3 3 dL_law_1474 rfl rfl ?_
        refine r_iconst (v := (1 : Int32)) C dL_law_1475 rfl ?_
        refine r_iadd C dL_law_1476 ?_
        obtain ⟨h500, hF⟩ := ck_e hF
        refine r_scr C hN hxs ((v3 + (1 : Int32)).toNatClampNeg) dL_law_1477 h500 rfl ?_
        obtain ⟨r502, σ501, e503, hF⟩ := bd_e hF
        refine r_callV_i (as := [vI (xs ((v3 + (1 : Int32)).toNatClampNeg))]) (st := [vI r498]) C dL_law_1478 (s_X11_count G l e503) rfl rfl rfl t_7_12 t_7_13 t_7_14 t_1_14 t_7_15 m_X11_count ⟨Nat.le_of_ble_eq_true rfl, Nat.le_of_ble_eq_true rfl⟩ ⟨rfl, rfl⟩ ⟨hcl, hsl⟩ rfl (Nat.le_of_ble_eq_true rfl) ?_
        refine r_icmp_eq C 1486 dL_law_1481 (by decide)  (fun h505 => ?_) (fun h505 => ?_)
        · have hF := if_t h505 hF
          obtain ⟨x504, ex504, hF⟩ := nam_e hF
          refine r_iinc (v := x504) (ls2 := [(3, vI x504), (0, vR (110, 0, 0)), (1, vR (0, 0, 0)), (2, vR (40, 0, 0))]) C 3 dL_law_1486 rfl ex504.symm (by decide) rfl ?_
          refine r_goto C 18 dL_law_1489 (by decide) ?_
          refine r_drop (ls2 := [(0, vR (110, 0, 0)), (1, vR (0, 0, 0)), (2, vR (40, 0, 0)), (3, vI x504)]) [1, 2, 3, 0] rfl ?_
          exact ih _ _ hF
        · have hF := if_f h505 hF
          refine r_iconst (v := (0 : Int32)) C dL_law_1484 rfl ?_
          exact absurd (rt_e hF).1 (by decide)
      have hF := if_f h495 hF
      refine r_tabOut C 1486 dL_law_33 (by have u0 := lv_neT h2 (a := 0) rfl; have u1 := lv_neT h15 (a := 1) rfl; have u2 := lv_neT h26 (a := 2) rfl; have u3 := lv_neT h35 (a := 3) rfl; have u4 := lv_neT h44 (a := 4) rfl; have u5 := lv_neT h55 (a := 5) rfl; have u6 := lv_neT h66 (a := 6) rfl; have u7 := lv_neT h79 (a := 7) rfl; have u8 := lv_neT h90 (a := 8) rfl; have u9 := lv_neT h105 (a := 9) rfl; have u10 := lv_neT h116 (a := 10) rfl; have u11 := lv_neT h127 (a := 11) rfl; have u12 := lv_neT h140 (a := 12) rfl; have u13 := lv_neT h151 (a := 13) rfl; have u14 := lv_neT h162 (a := 14) rfl; have u15 := lv_neT h173 (a := 15) rfl; have u16 := lv_neT h184 (a := 16) rfl; have u17 := lv_neT h195 (a := 17) rfl; have u18 := lv_neT h214 (a := 18) rfl; have u19 := lv_neT h231 (a := 19) rfl; have u20 := lv_neT h248 (a := 20) rfl; have u21 := lv_neT h263 (a := 21) rfl; have u22 := lv_neT h282 (a := 22) rfl; have u23 := lv_neT h305 (a := 23) rfl; have u24 := lv_neT h328 (a := 24) rfl; have u25 := lv_neT h353 (a := 25) rfl; have u26 := lv_neT h370 (a := 26) rfl; have u27 := lv_neT h385 (a := 27) rfl; have u28 := lv_neT h410 (a := 28) rfl; have u29 := lv_neT h419 (a := 29) rfl; have u30 := lv_neT h430 (a := 30) rfl; have u31 := lv_neT h439 (a := 31) rfl; have u32 := lv_neT h454 (a := 32) rfl; have u33 := lv_neT h469 (a := 33) rfl; have u34 := lv_neT h486 (a := 34) rfl; have u35 := lv_neT h495 (a := 35) rfl; omega) (by decide) ?_
      obtain ⟨x506, ex506, hF⟩ := nam_e hF
      refine r_iinc (v := x506) (ls2 := [(3, vI x506), (0, vR (110, 0, 0)), (1, vR (0, 0, 0)), (2, vR (40, 0, 0))]) C 3 dL_law_1486 rfl ex506.symm (by decide) rfl ?_
      refine r_goto C 18 dL_law_1489 (by decide) ?_
      refine r_drop (ls2 := [(0, vR (110, 0, 0)), (1, vR (0, 0, 0)), (2, vR (40, 0, 0)), (3, vI x506)]) [1, 2, 3, 0] rfl ?_
      exact ih _ _ hF
