def LCS : Nat := 122
def LSS : Nat := 2534
def wp_Law_law_28 (sn : Nat) (sx : Nat → Int32) (K0 : Int32 → Mu → Prop) (K1 : Int32 → Mu → Prop) (K2 : Int32 → Mu → Prop) (K3 : Int32 → Mu → Prop) (K4 : Int32 → Mu → Prop) (K5 : Int32 → Mu → Prop) (K6 : Int32 → Mu → Prop) (K7 : Int32 → Mu → Prop) (K8 : Int32 → Mu → Prop) (K9 : Int32 → Mu → Prop) (K10 : Int32 → Mu → Prop) (K11 : Int32 → Mu → Prop) (K12 : Int32 → Mu → Prop) (K13 : Int32 → Mu → Prop) (K14 : Int32 → Mu → Prop) (K15 : Int32 → Mu → Prop) (K16 : Int32 → Mu → Prop) (K17 : Int32 → Mu → Prop) (K18 : Int32 → Mu → Prop) (K19 : Int32 → Mu → Prop) (K20 : Int32 → Mu → Prop) (Q : Int32 → Mu → Prop) : Nat → Int32 → Mu → Prop
  | 0, _, _ => False
  | n28 + 1, v3, μ => (((((Int32.ofNat sn) - (4 : Int32)) < v3) → K20 v3 μ) ∧ ((¬ ((Int32.ofNat sn) - (4 : Int32)) < v3) → (vp_in v3 sn ∧ ((((Int32.toInt ((sx (Int32.toNatClampNeg v3)) &&& (31 : Int32))) < 0 ∨ 19 < (Int32.toInt ((sx (Int32.toNatClampNeg v3)) &&& (31 : Int32)))) → wp_Law_law_28 sn sx K0 K1 K2 K3 K4 K5 K6 K7 K8 K9 K10 K11 K12 K13 K14 K15 K16 K17 K18 K19 K20 Q n28 (v3 + 4) μ) ∧ (((Int32.toInt ((sx (Int32.toNatClampNeg v3)) &&& (31 : Int32))) = 0) → (vp_in (v3 + (1 : Int32)) sn ∧ (vp_in (v3 + (2 : Int32)) sn ∧ (vp_in (v3 + (3 : Int32)) sn ∧ wp_Host_code (sx (Int32.toNatClampNeg (v3 + (1 : Int32)))) (sx (Int32.toNatClampNeg (v3 + (2 : Int32)))) (sx (Int32.toNatClampNeg (v3 + (3 : Int32)))) μ (fun x6 μ5 => (vp_in (v3 + (1 : Int32)) sn ∧ (vp_in (v3 + (2 : Int32)) sn ∧ (vp_in (v3 + (3 : Int32)) sn ∧ wp_Mod_code (sx (Int32.toNatClampNeg (v3 + (1 : Int32)))) (sx (Int32.toNatClampNeg (v3 + (2 : Int32)))) (sx (Int32.toNatClampNeg (v3 + (3 : Int32)))) μ5 (fun x11 μ10 => (((x6 = x11) → wp_Law_law_28 sn sx K0 K1 K2 K3 K4 K5 K6 K7 K8 K9 K10 K11 K12 K13 K14 K15 K16 K17 K18 K19 K20 Q n28 (v3 + 4) μ10) ∧ ((¬ x6 = x11) → K0 v3 μ10))))))))))) ∧ (((Int32.toInt ((sx (Int32.toNatClampNeg v3)) &&& (31 : Int32))) = 1) → (vp_in (v3 + (1 : Int32)) sn ∧ wp_Host_clear (sx (Int32.toNatClampNeg (v3 + (1 : Int32)))) μ (fun x14 μ13 => (vp_in (v3 + (1 : Int32)) sn ∧ wp_Mod_clear (sx (Int32.toNatClampNeg (v3 + (1 : Int32)))) μ13 (fun x17 μ16 => (((x14 = x17) → wp_Law_law_28 sn sx K0 K1 K2 K3 K4 K5 K6 K7 K8 K9 K10 K11 K12 K13 K14 K15 K16 K17 K18 K19 K20 Q n28 (v3 + 4) μ16) ∧ ((¬ x14 = x17) → K1 v3 μ16))))))) ∧ (((Int32.toInt ((sx (Int32.toNatClampNeg v3)) &&& (31 : Int32))) = 2) → (vp_in (v3 + (1 : Int32)) sn ∧ wp_Host_seal (sx (Int32.toNatClampNeg (v3 + (1 : Int32)))) μ (fun x20 μ19 => (vp_in (v3 + (1 : Int32)) sn ∧ wp_Mod_seal (sx (Int32.toNatClampNeg (v3 + (1 : Int32)))) μ19 (fun x23 μ22 => (((x20 = x23) → wp_Law_law_28 sn sx K0 K1 K2 K3 K4 K5 K6 K7 K8 K9 K10 K11 K12 K13 K14 K15 K16 K17 K18 K19 K20 Q n28 (v3 + 4) μ22) ∧ ((¬ x20 = x23) → K2 v3 μ22))))))) ∧ (((Int32.toInt ((sx (Int32.toNatClampNeg v3)) &&& (31 : Int32))) = 3) → (vp_in (v3 + (1 : Int32)) sn ∧ (vp_in (v3 + (2 : Int32)) sn ∧ wp_Host_shape (sx (Int32.toNatClampNeg (v3 + (1 : Int32)))) (sx (Int32.toNatClampNeg (v3 + (2 : Int32)))) μ (fun x27 μ26 => (vp_in (v3 + (1 : Int32)) sn ∧ (vp_in (v3 + (2 : Int32)) sn ∧ wp_Mod_shape (sx (Int32.toNatClampNeg (v3 + (1 : Int32)))) (sx (Int32.toNatClampNeg (v3 + (2 : Int32)))) μ26 (fun x31 μ30 => (((x27 = x31) → wp_Law_law_28 sn sx K0 K1 K2 K3 K4 K5 K6 K7 K8 K9 K10 K11 K12 K13 K14 K15 K16 K17 K18 K19 K20 Q n28 (v3 + 4) μ30) ∧ ((¬ x27 = x31) → K3 v3 μ30))))))))) ∧ (((Int32.toInt ((sx (Int32.toNatClampNeg v3)) &&& (31 : Int32))) = 4) → (vp_in (v3 + (1 : Int32)) sn ∧ (vp_in (v3 + (2 : Int32)) sn ∧ (vp_in (v3 + (3 : Int32)) sn ∧ wp_Host_share (sx (Int32.toNatClampNeg (v3 + (1 : Int32)))) (sx (Int32.toNatClampNeg (v3 + (2 : Int32)))) (sx (Int32.toNatClampNeg (v3 + (3 : Int32)))) μ (fun x36 μ35 => (vp_in (v3 + (1 : Int32)) sn ∧ (vp_in (v3 + (2 : Int32)) sn ∧ (vp_in (v3 + (3 : Int32)) sn ∧ wp_Mod_share (sx (Int32.toNatClampNeg (v3 + (1 : Int32)))) (sx (Int32.toNatClampNeg (v3 + (2 : Int32)))) (sx (Int32.toNatClampNeg (v3 + (3 : Int32)))) μ35 (fun x41 μ40 => (((x36 = x41) → wp_Law_law_28 sn sx K0 K1 K2 K3 K4 K5 K6 K7 K8 K9 K10 K11 K12 K13 K14 K15 K16 K17 K18 K19 K20 Q n28 (v3 + 4) μ40) ∧ ((¬ x36 = x41) → K4 v3 μ40))))))))))) ∧ (((Int32.toInt ((sx (Int32.toNatClampNeg v3)) &&& (31 : Int32))) = 5) → (vp_in (v3 + (1 : Int32)) sn ∧ (vp_in (v3 + (2 : Int32)) sn ∧ (vp_in (v3 + (3 : Int32)) sn ∧ wp_Host_reserve (sx (Int32.toNatClampNeg (v3 + (1 : Int32)))) (sx (Int32.toNatClampNeg (v3 + (2 : Int32)))) (sx (Int32.toNatClampNeg (v3 + (3 : Int32)))) μ (fun x46 μ45 => (vp_in (v3 + (1 : Int32)) sn ∧ (vp_in (v3 + (2 : Int32)) sn ∧ (vp_in (v3 + (3 : Int32)) sn ∧ wp_Mod_reserve (sx (Int32.toNatClampNeg (v3 + (1 : Int32)))) (sx (Int32.toNatClampNeg (v3 + (2 : Int32)))) (sx (Int32.toNatClampNeg (v3 + (3 : Int32)))) μ45 (fun x51 μ50 => (((x46 = x51) → wp_Law_law_28 sn sx K0 K1 K2 K3 K4 K5 K6 K7 K8 K9 K10 K11 K12 K13 K14 K15 K16 K17 K18 K19 K20 Q n28 (v3 + 4) μ50) ∧ ((¬ x46 = x51) → K5 v3 μ50))))))))))) ∧ (((Int32.toInt ((sx (Int32.toNatClampNeg v3)) &&& (31 : Int32))) = 6) → (vp_in (v3 + (1 : Int32)) sn ∧ (vp_in (v3 + (2 : Int32)) sn ∧ (vp_in (v3 + (3 : Int32)) sn ∧ wp_Host_permit (sx (Int32.toNatClampNeg (v3 + (1 : Int32)))) (sx (Int32.toNatClampNeg (v3 + (2 : Int32)))) (sx (Int32.toNatClampNeg (v3 + (3 : Int32)))) μ (fun x56 μ55 => (vp_in (v3 + (1 : Int32)) sn ∧ (vp_in (v3 + (2 : Int32)) sn ∧ (vp_in (v3 + (3 : Int32)) sn ∧ wp_Mod_permit (sx (Int32.toNatClampNeg (v3 + (1 : Int32)))) (sx (Int32.toNatClampNeg (v3 + (2 : Int32)))) (sx (Int32.toNatClampNeg (v3 + (3 : Int32)))) μ55 (fun x61 μ60 => (((x56 = x61) → wp_Law_law_28 sn sx K0 K1 K2 K3 K4 K5 K6 K7 K8 K9 K10 K11 K12 K13 K14 K15 K16 K17 K18 K19 K20 Q n28 (v3 + 4) μ60) ∧ ((¬ x56 = x61) → K6 v3 μ60))))))))))) ∧ (((Int32.toInt ((sx (Int32.toNatClampNeg v3)) &&& (31 : Int32))) = 7) → (vp_in (v3 + (1 : Int32)) sn ∧ (vp_in (v3 + (2 : Int32)) sn ∧ wp_Host_launch (sx (Int32.toNatClampNeg (v3 + (1 : Int32)))) (sx (Int32.toNatClampNeg (v3 + (2 : Int32)))) μ (fun x65 μ64 => (vp_in (v3 + (1 : Int32)) sn ∧ (vp_in (v3 + (2 : Int32)) sn ∧ wp_Mod_launch (sx (Int32.toNatClampNeg (v3 + (1 : Int32)))) (sx (Int32.toNatClampNeg (v3 + (2 : Int32)))) μ64 (fun x69 μ68 => (((x65 = x69) → wp_Law_law_28 sn sx K0 K1 K2 K3 K4 K5 K6 K7 K8 K9 K10 K11 K12 K13 K14 K15 K16 K17 K18 K19 K20 Q n28 (v3 + 4) μ68) ∧ ((¬ x65 = x69) → K7 v3 μ68))))))))) ∧ (((Int32.toInt ((sx (Int32.toNatClampNeg v3)) &&& (31 : Int32))) = 8) → (vp_in (v3 + (1 : Int32)) sn ∧ (vp_in (v3 + (2 : Int32)) sn ∧ wp_Host_feed (sx (Int32.toNatClampNeg (v3 + (1 : Int32)))) (sx (Int32.toNatClampNeg (v3 + (2 : Int32)))) μ (fun x73 μ72 => (vp_in (v3 + (1 : Int32)) sn ∧ (vp_in (v3 + (2 : Int32)) sn ∧ wp_Mod_feed (sx (Int32.toNatClampNeg (v3 + (1 : Int32)))) (sx (Int32.toNatClampNeg (v3 + (2 : Int32)))) μ72 (fun x77 μ76 => (((x73 = x77) → wp_Law_law_28 sn sx K0 K1 K2 K3 K4 K5 K6 K7 K8 K9 K10 K11 K12 K13 K14 K15 K16 K17 K18 K19 K20 Q n28 (v3 + 4) μ76) ∧ ((¬ x73 = x77) → K8 v3 μ76))))))))) ∧ (((Int32.toInt ((sx (Int32.toNatClampNeg v3)) &&& (31 : Int32))) = 9) → (vp_in (v3 + (1 : Int32)) sn ∧ wp_Host_run (sx (Int32.toNatClampNeg (v3 + (1 : Int32)))) μ (fun x80 μ79 => (vp_in (v3 + (1 : Int32)) sn ∧ wp_Mod_run (sx (Int32.toNatClampNeg (v3 + (1 : Int32)))) μ79 (fun x83 μ82 => (((x80 = x83) → wp_Law_law_28 sn sx K0 K1 K2 K3 K4 K5 K6 K7 K8 K9 K10 K11 K12 K13 K14 K15 K16 K17 K18 K19 K20 Q n28 (v3 + 4) μ82) ∧ ((¬ x80 = x83) → K9 v3 μ82))))))) ∧ (((Int32.toInt ((sx (Int32.toNatClampNeg v3)) &&& (31 : Int32))) = 10) → (vp_in (v3 + (1 : Int32)) sn ∧ wp_Host_state (sx (Int32.toNatClampNeg (v3 + (1 : Int32)))) μ (fun x86 μ85 => (vp_in (v3 + (1 : Int32)) sn ∧ wp_Mod_state (sx (Int32.toNatClampNeg (v3 + (1 : Int32)))) μ85 (fun x89 μ88 => (((x86 = x89) → wp_Law_law_28 sn sx K0 K1 K2 K3 K4 K5 K6 K7 K8 K9 K10 K11 K12 K13 K14 K15 K16 K17 K18 K19 K20 Q n28 (v3 + 4) μ88) ∧ ((¬ x86 = x89) → K10 v3 μ88))))))) ∧ (((Int32.toInt ((sx (Int32.toNatClampNeg v3)) &&& (31 : Int32))) = 11) → (vp_in (v3 + (1 : Int32)) sn ∧ wp_Host_steps (sx (Int32.toNatClampNeg (v3 + (1 : Int32)))) μ (fun x92 μ91 => (vp_in (v3 + (1 : Int32)) sn ∧ wp_Mod_steps (sx (Int32.toNatClampNeg (v3 + (1 : Int32)))) μ91 (fun x95 μ94 => (((x92 = x95) → wp_Law_law_28 sn sx K0 K1 K2 K3 K4 K5 K6 K7 K8 K9 K10 K11 K12 K13 K14 K15 K16 K17 K18 K19 K20 Q n28 (v3 + 4) μ94) ∧ ((¬ x92 = x95) → K11 v3 μ94))))))) ∧ (((Int32.toInt ((sx (Int32.toNatClampNeg v3)) &&& (31 : Int32))) = 12) → (vp_in (v3 + (1 : Int32)) sn ∧ wp_Host_used (sx (Int32.toNatClampNeg (v3 + (1 : Int32)))) μ (fun x98 μ97 => (vp_in (v3 + (1 : Int32)) sn ∧ wp_Mod_used (sx (Int32.toNatClampNeg (v3 + (1 : Int32)))) μ97 (fun x101 μ100 => (((x98 = x101) → wp_Law_law_28 sn sx K0 K1 K2 K3 K4 K5 K6 K7 K8 K9 K10 K11 K12 K13 K14 K15 K16 K17 K18 K19 K20 Q n28 (v3 + 4) μ100) ∧ ((¬ x98 = x101) → K12 v3 μ100))))))) ∧ (((Int32.toInt ((sx (Int32.toNatClampNeg v3)) &&& (31 : Int32))) = 13) → (vp_in (v3 + (1 : Int32)) sn ∧ wp_Host_live (sx (Int32.toNatClampNeg (v3 + (1 : Int32)))) μ (fun x104 μ103 => (vp_in (v3 + (1 : Int32)) sn ∧ wp_Mod_live (sx (Int32.toNatClampNeg (v3 + (1 : Int32)))) μ103 (fun x107 μ106 => (((x104 = x107) → wp_Law_law_28 sn sx K0 K1 K2 K3 K4 K5 K6 K7 K8 K9 K10 K11 K12 K13 K14 K15 K16 K17 K18 K19 K20 Q n28 (v3 + 4) μ106) ∧ ((¬ x104 = x107) → K13 v3 μ106))))))) ∧ (((Int32.toInt ((sx (Int32.toNatClampNeg v3)) &&& (31 : Int32))) = 14) → (vp_in (v3 + (1 : Int32)) sn ∧ wp_Host_collections (sx (Int32.toNatClampNeg (v3 + (1 : Int32)))) μ (fun x110 μ109 => (vp_in (v3 + (1 : Int32)) sn ∧ wp_Mod_collections (sx (Int32.toNatClampNeg (v3 + (1 : Int32)))) μ109 (fun x113 μ112 => (((x110 = x113) → wp_Law_law_28 sn sx K0 K1 K2 K3 K4 K5 K6 K7 K8 K9 K10 K11 K12 K13 K14 K15 K16 K17 K18 K19 K20 Q n28 (v3 + 4) μ112) ∧ ((¬ x110 = x113) → K14 v3 μ112))))))) ∧ (((Int32.toInt ((sx (Int32.toNatClampNeg v3)) &&& (31 : Int32))) = 15) → (vp_in (v3 + (1 : Int32)) sn ∧ wp_Host_ended (sx (Int32.toNatClampNeg (v3 + (1 : Int32)))) μ (fun x116 μ115 => (vp_in (v3 + (1 : Int32)) sn ∧ wp_Mod_ended (sx (Int32.toNatClampNeg (v3 + (1 : Int32)))) μ115 (fun x119 μ118 => (((x116 = x119) → wp_Law_law_28 sn sx K0 K1 K2 K3 K4 K5 K6 K7 K8 K9 K10 K11 K12 K13 K14 K15 K16 K17 K18 K19 K20 Q n28 (v3 + 4) μ118) ∧ ((¬ x116 = x119) → K15 v3 μ118))))))) ∧ (((Int32.toInt ((sx (Int32.toNatClampNeg v3)) &&& (31 : Int32))) = 16) → (vp_in (v3 + (1 : Int32)) sn ∧ wp_Host_messages (sx (Int32.toNatClampNeg (v3 + (1 : Int32)))) μ (fun x122 μ121 => (vp_in (v3 + (1 : Int32)) sn ∧ wp_Mod_messages (sx (Int32.toNatClampNeg (v3 + (1 : Int32)))) μ121 (fun x125 μ124 => (((x122 = x125) → wp_Law_law_28 sn sx K0 K1 K2 K3 K4 K5 K6 K7 K8 K9 K10 K11 K12 K13 K14 K15 K16 K17 K18 K19 K20 Q n28 (v3 + 4) μ124) ∧ ((¬ x122 = x125) → K16 v3 μ124))))))) ∧ (((Int32.toInt ((sx (Int32.toNatClampNeg v3)) &&& (31 : Int32))) = 17) → (vp_in (v3 + (1 : Int32)) sn ∧ (vp_in (v3 + (2 : Int32)) sn ∧ wp_Host_output (sx (Int32.toNatClampNeg (v3 + (1 : Int32)))) (sx (Int32.toNatClampNeg (v3 + (2 : Int32)))) μ (fun x129 μ128 => (vp_in (v3 + (1 : Int32)) sn ∧ (vp_in (v3 + (2 : Int32)) sn ∧ wp_Mod_output (sx (Int32.toNatClampNeg (v3 + (1 : Int32)))) (sx (Int32.toNatClampNeg (v3 + (2 : Int32)))) μ128 (fun x133 μ132 => (((x129 = x133) → wp_Law_law_28 sn sx K0 K1 K2 K3 K4 K5 K6 K7 K8 K9 K10 K11 K12 K13 K14 K15 K16 K17 K18 K19 K20 Q n28 (v3 + 4) μ132) ∧ ((¬ x129 = x133) → K17 v3 μ132))))))))) ∧ (((Int32.toInt ((sx (Int32.toNatClampNeg v3)) &&& (31 : Int32))) = 18) → (vp_in (v3 + (1 : Int32)) sn ∧ (vp_in (v3 + (2 : Int32)) sn ∧ wp_Host_local (sx (Int32.toNatClampNeg (v3 + (1 : Int32)))) (sx (Int32.toNatClampNeg (v3 + (2 : Int32)))) μ (fun x137 μ136 => (vp_in (v3 + (1 : Int32)) sn ∧ (vp_in (v3 + (2 : Int32)) sn ∧ wp_Mod_local (sx (Int32.toNatClampNeg (v3 + (1 : Int32)))) (sx (Int32.toNatClampNeg (v3 + (2 : Int32)))) μ136 (fun x141 μ140 => (((x137 = x141) → wp_Law_law_28 sn sx K0 K1 K2 K3 K4 K5 K6 K7 K8 K9 K10 K11 K12 K13 K14 K15 K16 K17 K18 K19 K20 Q n28 (v3 + 4) μ140) ∧ ((¬ x137 = x141) → K18 v3 μ140))))))))) ∧ (((Int32.toInt ((sx (Int32.toNatClampNeg v3)) &&& (31 : Int32))) = 19) → (vp_in (v3 + (1 : Int32)) sn ∧ (vp_in (v3 + (2 : Int32)) sn ∧ (vp_in (v3 + (3 : Int32)) sn ∧ wp_Host_look (sx (Int32.toNatClampNeg (v3 + (1 : Int32)))) (sx (Int32.toNatClampNeg (v3 + (2 : Int32)))) (sx (Int32.toNatClampNeg (v3 + (3 : Int32)))) μ (fun x146 μ145 => (vp_in (v3 + (1 : Int32)) sn ∧ (vp_in (v3 + (2 : Int32)) sn ∧ (vp_in (v3 + (3 : Int32)) sn ∧ wp_Mod_look (sx (Int32.toNatClampNeg (v3 + (1 : Int32)))) (sx (Int32.toNatClampNeg (v3 + (2 : Int32)))) (sx (Int32.toNatClampNeg (v3 + (3 : Int32)))) μ145 (fun x151 μ150 => (((x146 = x151) → wp_Law_law_28 sn sx K0 K1 K2 K3 K4 K5 K6 K7 K8 K9 K10 K11 K12 K13 K14 K15 K16 K17 K18 K19 K20 Q n28 (v3 + 4) μ150) ∧ ((¬ x146 = x151) → K19 v3 μ150)))))))))))))))
set_option maxRecDepth 100000 in
set_option maxHeartbeats 4000000 in
theorem g_Law_law_28 {l : Launch} {sn : Nat} {sx : Nat → Int32}  {K0 : Int32 → Mu → Prop} {K1 : Int32 → Mu → Prop} {K2 : Int32 → Mu → Prop} {K3 : Int32 → Mu → Prop} {K4 : Int32 → Mu → Prop} {K5 : Int32 → Mu → Prop} {K6 : Int32 → Mu → Prop} {K7 : Int32 → Mu → Prop} {K8 : Int32 → Mu → Prop} {K9 : Int32 → Mu → Prop} {K10 : Int32 → Mu → Prop} {K11 : Int32 → Mu → Prop} {K12 : Int32 → Mu → Prop} {K13 : Int32 → Mu → Prop} {K14 : Int32 → Mu → Prop} {K15 : Int32 → Mu → Prop} {K16 : Int32 → Mu → Prop} {K17 : Int32 → Mu → Prop} {K18 : Int32 → Mu → Prop} {K19 : Int32 → Mu → Prop} {K20 : Int32 → Mu → Prop} {Q : Int32 → Mu → Prop} (hK0 : ∀ (v3 : Int32) (μ : Mu), K0 v3 μ → Go (l, scT sn sx) mt_Law_law true room_1 LCS LSS 177 [some (.ref 100003), some (.ref 0), some (.ref 91), some (.int v3)] [] (lay μ) (PI Q)) (hK1 : ∀ (v3 : Int32) (μ : Mu), K1 v3 μ → Go (l, scT sn sx) mt_Law_law true room_1 LCS LSS 200 [some (.ref 100003), some (.ref 0), some (.ref 91), some (.int v3)] [] (lay μ) (PI Q)) (hK2 : ∀ (v3 : Int32) (μ : Mu), K2 v3 μ → Go (l, scT sn sx) mt_Law_law true room_1 LCS LSS 223 [some (.ref 100003), some (.ref 0), some (.ref 91), some (.int v3)] [] (lay μ) (PI Q)) (hK3 : ∀ (v3 : Int32) (μ : Mu), K3 v3 μ → Go (l, scT sn sx) mt_Law_law true room_1 LCS LSS 256 [some (.ref 100003), some (.ref 0), some (.ref 91), some (.int v3)] [] (lay μ) (PI Q)) (hK4 : ∀ (v3 : Int32) (μ : Mu), K4 v3 μ → Go (l, scT sn sx) mt_Law_law true room_1 LCS LSS 299 [some (.ref 100003), some (.ref 0), some (.ref 91), some (.int v3)] [] (lay μ) (PI Q)) (hK5 : ∀ (v3 : Int32) (μ : Mu), K5 v3 μ → Go (l, scT sn sx) mt_Law_law true room_1 LCS LSS 342 [some (.ref 100003), some (.ref 0), some (.ref 91), some (.int v3)] [] (lay μ) (PI Q)) (hK6 : ∀ (v3 : Int32) (μ : Mu), K6 v3 μ → Go (l, scT sn sx) mt_Law_law true room_1 LCS LSS 385 [some (.ref 100003), some (.ref 0), some (.ref 91), some (.int v3)] [] (lay μ) (PI Q)) (hK7 : ∀ (v3 : Int32) (μ : Mu), K7 v3 μ → Go (l, scT sn sx) mt_Law_law true room_1 LCS LSS 418 [some (.ref 100003), some (.ref 0), some (.ref 91), some (.int v3)] [] (lay μ) (PI Q)) (hK8 : ∀ (v3 : Int32) (μ : Mu), K8 v3 μ → Go (l, scT sn sx) mt_Law_law true room_1 LCS LSS 451 [some (.ref 100003), some (.ref 0), some (.ref 91), some (.int v3)] [] (lay μ) (PI Q)) (hK9 : ∀ (v3 : Int32) (μ : Mu), K9 v3 μ → Go (l, scT sn sx) mt_Law_law true room_1 LCS LSS 474 [some (.ref 100003), some (.ref 0), some (.ref 91), some (.int v3)] [] (lay μ) (PI Q)) (hK10 : ∀ (v3 : Int32) (μ : Mu), K10 v3 μ → Go (l, scT sn sx) mt_Law_law true room_1 LCS LSS 497 [some (.ref 100003), some (.ref 0), some (.ref 91), some (.int v3)] [] (lay μ) (PI Q)) (hK11 : ∀ (v3 : Int32) (μ : Mu), K11 v3 μ → Go (l, scT sn sx) mt_Law_law true room_1 LCS LSS 520 [some (.ref 100003), some (.ref 0), some (.ref 91), some (.int v3)] [] (lay μ) (PI Q)) (hK12 : ∀ (v3 : Int32) (μ : Mu), K12 v3 μ → Go (l, scT sn sx) mt_Law_law true room_1 LCS LSS 543 [some (.ref 100003), some (.ref 0), some (.ref 91), some (.int v3)] [] (lay μ) (PI Q)) (hK13 : ∀ (v3 : Int32) (μ : Mu), K13 v3 μ → Go (l, scT sn sx) mt_Law_law true room_1 LCS LSS 566 [some (.ref 100003), some (.ref 0), some (.ref 91), some (.int v3)] [] (lay μ) (PI Q)) (hK14 : ∀ (v3 : Int32) (μ : Mu), K14 v3 μ → Go (l, scT sn sx) mt_Law_law true room_1 LCS LSS 589 [some (.ref 100003), some (.ref 0), some (.ref 91), some (.int v3)] [] (lay μ) (PI Q)) (hK15 : ∀ (v3 : Int32) (μ : Mu), K15 v3 μ → Go (l, scT sn sx) mt_Law_law true room_1 LCS LSS 612 [some (.ref 100003), some (.ref 0), some (.ref 91), some (.int v3)] [] (lay μ) (PI Q)) (hK16 : ∀ (v3 : Int32) (μ : Mu), K16 v3 μ → Go (l, scT sn sx) mt_Law_law true room_1 LCS LSS 635 [some (.ref 100003), some (.ref 0), some (.ref 91), some (.int v3)] [] (lay μ) (PI Q)) (hK17 : ∀ (v3 : Int32) (μ : Mu), K17 v3 μ → Go (l, scT sn sx) mt_Law_law true room_1 LCS LSS 668 [some (.ref 100003), some (.ref 0), some (.ref 91), some (.int v3)] [] (lay μ) (PI Q)) (hK18 : ∀ (v3 : Int32) (μ : Mu), K18 v3 μ → Go (l, scT sn sx) mt_Law_law true room_1 LCS LSS 701 [some (.ref 100003), some (.ref 0), some (.ref 91), some (.int v3)] [] (lay μ) (PI Q)) (hK19 : ∀ (v3 : Int32) (μ : Mu), K19 v3 μ → Go (l, scT sn sx) mt_Law_law true room_1 LCS LSS 744 [some (.ref 100003), some (.ref 0), some (.ref 91), some (.int v3)] [] (lay μ) (PI Q)) (hK20 : ∀ (v3 : Int32) (μ : Mu), K20 v3 μ → Go (l, scT sn sx) mt_Law_law true room_1 LCS LSS 752 [some (.ref 100003), some (.ref 0), some (.ref 91), some (.int v3)] [] (lay μ) (PI Q)) : ∀ (n : Nat) (v3 : Int32) (μ : Mu), wp_Law_law_28 sn sx K0 K1 K2 K3 K4 K5 K6 K7 K8 K9 K10 K11 K12 K13 K14 K15 K16 K17 K18 K19 K20 Q n v3 μ → Go (l, scT sn sx) mt_Law_law true room_1 LCS LSS 28 [some (.ref 100003), some (.ref 0), some (.ref 91), some (.int v3)] [] (lay μ) (PI Q) := by
  intro n
  induction n with
  | zero => intro v3 μ hk; exact hk.elim
  | succ n ih =>
    intro v3 μ hk
    unfold wp_Law_law_28 at hk
    refine go_iload_n (pc := 28) (i := 3) d_Law_law_28 rfl rfl ?_
    refine go_aload_n (pc := 29) (i := 0) d_Law_law_29 rfl rfl ?_
    refine go_scn (pc := 30) rfl d_Law_law_30 ?_
    refine go_iconst (pc := 31) (v := 4) d_Law_law_31 (by decide) ?_
    refine go_isub (pc := 32) d_Law_law_32 ?_
    refine go_icmp_gt (pc := 33) (tgt := 752) d_Law_law_33 rfl (fun h33 => ?_) (fun h33 => ?_)
    · replace hk := hk.1 h33
      exact hK20 _ _ hk
    · replace hk := hk.2 h33
      refine go_aload_n (pc := 36) (i := 0) d_Law_law_36 rfl rfl ?_
      refine go_iload_n (pc := 37) (i := 3) d_Law_law_37 rfl rfl ?_
      obtain ⟨hi1, hk⟩ := hk
      refine go_scr (pc := 38) rfl hi1 d_Law_law_38 ?_
      refine go_bipush (pc := 39) (v := 31) d_Law_law_39 (by decide) ?_
      refine go_iand (pc := 41) d_Law_law_41 ?_
      by_cases hsw : (Int32.toInt ((sx (Int32.toNatClampNeg v3)) &&& (31 : Int32))) < 0 ∨ 19 < (Int32.toInt ((sx (Int32.toNatClampNeg v3)) &&& (31 : Int32)))
      · replace hk := hk.1 hsw
        refine go_tableOut (pc := 42) (tgt := 746) d_Law_law_42 hsw rfl ?_
        refine go_iinc (pc := 746) (v := (v3 + 4)) (L' := [some (.ref 100003), some (.ref 0), some (.ref 91), some (.int (v3 + 4))]) d_Law_law_746 rfl rfl (by decide) rfl ?_
        refine go_goto (pc := 749) (tgt := 28) d_Law_law_749 rfl ?_
        exact ih _ _ hk
      replace hk := hk.2
      have hsx : (Int32.toInt ((sx (Int32.toNatClampNeg v3)) &&& (31 : Int32))) = 0 ∨ (Int32.toInt ((sx (Int32.toNatClampNeg v3)) &&& (31 : Int32))) = 1 ∨ (Int32.toInt ((sx (Int32.toNatClampNeg v3)) &&& (31 : Int32))) = 2 ∨ (Int32.toInt ((sx (Int32.toNatClampNeg v3)) &&& (31 : Int32))) = 3 ∨ (Int32.toInt ((sx (Int32.toNatClampNeg v3)) &&& (31 : Int32))) = 4 ∨ (Int32.toInt ((sx (Int32.toNatClampNeg v3)) &&& (31 : Int32))) = 5 ∨ (Int32.toInt ((sx (Int32.toNatClampNeg v3)) &&& (31 : Int32))) = 6 ∨ (Int32.toInt ((sx (Int32.toNatClampNeg v3)) &&& (31 : Int32))) = 7 ∨ (Int32.toInt ((sx (Int32.toNatClampNeg v3)) &&& (31 : Int32))) = 8 ∨ (Int32.toInt ((sx (Int32.toNatClampNeg v3)) &&& (31 : Int32))) = 9 ∨ (Int32.toInt ((sx (Int32.toNatClampNeg v3)) &&& (31 : Int32))) = 10 ∨ (Int32.toInt ((sx (Int32.toNatClampNeg v3)) &&& (31 : Int32))) = 11 ∨ (Int32.toInt ((sx (Int32.toNatClampNeg v3)) &&& (31 : Int32))) = 12 ∨ (Int32.toInt ((sx (Int32.toNatClampNeg v3)) &&& (31 : Int32))) = 13 ∨ (Int32.toInt ((sx (Int32.toNatClampNeg v3)) &&& (31 : Int32))) = 14 ∨ (Int32.toInt ((sx (Int32.toNatClampNeg v3)) &&& (31 : Int32))) = 15 ∨ (Int32.toInt ((sx (Int32.toNatClampNeg v3)) &&& (31 : Int32))) = 16 ∨ (Int32.toInt ((sx (Int32.toNatClampNeg v3)) &&& (31 : Int32))) = 17 ∨ (Int32.toInt ((sx (Int32.toNatClampNeg v3)) &&& (31 : Int32))) = 18 ∨ (Int32.toInt ((sx (Int32.toNatClampNeg v3)) &&& (31 : Int32))) = 19 := by omega
      rcases hsx with hsx | hsx | hsx | hsx | hsx | hsx | hsx | hsx | hsx | hsx | hsx | hsx | hsx | hsx | hsx | hsx | hsx | hsx | hsx | hsx
      · replace hk := hk.1 hsx
        refine go_tableIn (pc := 42) (tgt := 136) d_Law_law_42 (by omega) (by omega) (by rw [hsx]; rfl) rfl ?_
        refine go_aload_n (pc := 136) (i := 1) d_Law_law_136 rfl rfl ?_
        refine go_aload_n (pc := 137) (i := 0) d_Law_law_137 rfl rfl ?_
        refine go_iload_n (pc := 138) (i := 3) d_Law_law_138 rfl rfl ?_
        refine go_iconst (pc := 139) (v := 1) d_Law_law_139 (by decide) ?_
        refine go_iadd (pc := 140) d_Law_law_140 ?_
        obtain ⟨hi2, hk⟩ := hk
        refine go_scr (pc := 141) rfl hi2 d_Law_law_141 ?_
        refine go_aload_n (pc := 142) (i := 0) d_Law_law_142 rfl rfl ?_
        refine go_iload_n (pc := 143) (i := 3) d_Law_law_143 rfl rfl ?_
        refine go_iconst (pc := 144) (v := 2) d_Law_law_144 (by decide) ?_
        refine go_iadd (pc := 145) d_Law_law_145 ?_
        obtain ⟨hi3, hk⟩ := hk
        refine go_scr (pc := 146) rfl hi3 d_Law_law_146 ?_
        refine go_aload_n (pc := 147) (i := 0) d_Law_law_147 rfl rfl ?_
        refine go_iload_n (pc := 148) (i := 3) d_Law_law_148 rfl rfl ?_
        refine go_iconst (pc := 149) (v := 3) d_Law_law_149 (by decide) ?_
        refine go_iadd (pc := 150) d_Law_law_150 ?_
        obtain ⟨hi4, hk⟩ := hk
        refine go_scr (pc := 151) rfl hi4 d_Law_law_151 ?_
        refine go_callV (pc := 152) (m_Host_code  hk) cz_Host_code cv_Host_code (Or.inl lk_Law_21) (lay_at sh_host) rfl rfl rfl (Nat.le_of_ble_eq_true rfl) ⟨by decide, by decide⟩ rfl rfl d_Law_law_152 (fun r M' hr => ?_)
        obtain ⟨x6, μ5, rfl, rfl, hk⟩ := hr
        try dsimp only [Option.toList, List.cons_append, List.nil_append]
        refine go_aload_n (pc := 155) (i := 2) d_Law_law_155 rfl rfl ?_
        refine go_aload_n (pc := 156) (i := 0) d_Law_law_156 rfl rfl ?_
        refine go_iload_n (pc := 157) (i := 3) d_Law_law_157 rfl rfl ?_
        refine go_iconst (pc := 158) (v := 1) d_Law_law_158 (by decide) ?_
        refine go_iadd (pc := 159) d_Law_law_159 ?_
        obtain ⟨hi7, hk⟩ := hk
        refine go_scr (pc := 160) rfl hi7 d_Law_law_160 ?_
        refine go_aload_n (pc := 161) (i := 0) d_Law_law_161 rfl rfl ?_
        refine go_iload_n (pc := 162) (i := 3) d_Law_law_162 rfl rfl ?_
        refine go_iconst (pc := 163) (v := 2) d_Law_law_163 (by decide) ?_
        refine go_iadd (pc := 164) d_Law_law_164 ?_
        obtain ⟨hi8, hk⟩ := hk
        refine go_scr (pc := 165) rfl hi8 d_Law_law_165 ?_
        refine go_aload_n (pc := 166) (i := 0) d_Law_law_166 rfl rfl ?_
        refine go_iload_n (pc := 167) (i := 3) d_Law_law_167 rfl rfl ?_
        refine go_iconst (pc := 168) (v := 3) d_Law_law_168 (by decide) ?_
        refine go_iadd (pc := 169) d_Law_law_169 ?_
        obtain ⟨hi9, hk⟩ := hk
        refine go_scr (pc := 170) rfl hi9 d_Law_law_170 ?_
        refine go_callV (pc := 171) (m_Mod_code  hk) cz_Mod_code cv_Mod_code (Or.inl lk_Law_25) (lay_at sh_model) rfl rfl rfl (Nat.le_of_ble_eq_true rfl) ⟨by decide, by decide⟩ rfl rfl d_Law_law_171 (fun r M' hr => ?_)
        obtain ⟨x11, μ10, rfl, rfl, hk⟩ := hr
        try dsimp only [Option.toList, List.cons_append, List.nil_append]
        refine go_icmp_eq (pc := 174) (tgt := 746) d_Law_law_174 rfl (fun h174 => ?_) (fun h174 => ?_)
        · replace hk := hk.1 h174
          refine go_iinc (pc := 746) (v := (v3 + 4)) (L' := [some (.ref 100003), some (.ref 0), some (.ref 91), some (.int (v3 + 4))]) d_Law_law_746 rfl rfl (by decide) rfl ?_
          refine go_goto (pc := 749) (tgt := 28) d_Law_law_749 rfl ?_
          exact ih _ _ hk
        · replace hk := hk.2 h174
          exact hK0 _ _ hk
      · replace hk := hk.2.1 hsx
        refine go_tableIn (pc := 42) (tgt := 179) d_Law_law_42 (by omega) (by omega) (by rw [hsx]; rfl) rfl ?_
        refine go_aload_n (pc := 179) (i := 1) d_Law_law_179 rfl rfl ?_
        refine go_aload_n (pc := 180) (i := 0) d_Law_law_180 rfl rfl ?_
        refine go_iload_n (pc := 181) (i := 3) d_Law_law_181 rfl rfl ?_
        refine go_iconst (pc := 182) (v := 1) d_Law_law_182 (by decide) ?_
        refine go_iadd (pc := 183) d_Law_law_183 ?_
        obtain ⟨hi12, hk⟩ := hk
        refine go_scr (pc := 184) rfl hi12 d_Law_law_184 ?_
        refine go_callV (pc := 185) (m_Host_clear  hk) cz_Host_clear cv_Host_clear (Or.inl lk_Law_26) (lay_at sh_host) rfl rfl rfl (Nat.le_of_ble_eq_true rfl) ⟨by decide, by decide⟩ rfl rfl d_Law_law_185 (fun r M' hr => ?_)
        obtain ⟨x14, μ13, rfl, rfl, hk⟩ := hr
        try dsimp only [Option.toList, List.cons_append, List.nil_append]
        refine go_aload_n (pc := 188) (i := 2) d_Law_law_188 rfl rfl ?_
        refine go_aload_n (pc := 189) (i := 0) d_Law_law_189 rfl rfl ?_
        refine go_iload_n (pc := 190) (i := 3) d_Law_law_190 rfl rfl ?_
        refine go_iconst (pc := 191) (v := 1) d_Law_law_191 (by decide) ?_
        refine go_iadd (pc := 192) d_Law_law_192 ?_
        obtain ⟨hi15, hk⟩ := hk
        refine go_scr (pc := 193) rfl hi15 d_Law_law_193 ?_
        refine go_callV (pc := 194) (m_Mod_clear  hk) cz_Mod_clear cv_Mod_clear (Or.inl lk_Law_30) (lay_at sh_model) rfl rfl rfl (Nat.le_of_ble_eq_true rfl) ⟨by decide, by decide⟩ rfl rfl d_Law_law_194 (fun r M' hr => ?_)
        obtain ⟨x17, μ16, rfl, rfl, hk⟩ := hr
        try dsimp only [Option.toList, List.cons_append, List.nil_append]
        refine go_icmp_eq (pc := 197) (tgt := 746) d_Law_law_197 rfl (fun h197 => ?_) (fun h197 => ?_)
        · replace hk := hk.1 h197
          refine go_iinc (pc := 746) (v := (v3 + 4)) (L' := [some (.ref 100003), some (.ref 0), some (.ref 91), some (.int (v3 + 4))]) d_Law_law_746 rfl rfl (by decide) rfl ?_
          refine go_goto (pc := 749) (tgt := 28) d_Law_law_749 rfl ?_
          exact ih _ _ hk
        · replace hk := hk.2 h197
          exact hK1 _ _ hk
      · replace hk := hk.2.2.1 hsx
        refine go_tableIn (pc := 42) (tgt := 202) d_Law_law_42 (by omega) (by omega) (by rw [hsx]; rfl) rfl ?_
        refine go_aload_n (pc := 202) (i := 1) d_Law_law_202 rfl rfl ?_
        refine go_aload_n (pc := 203) (i := 0) d_Law_law_203 rfl rfl ?_
        refine go_iload_n (pc := 204) (i := 3) d_Law_law_204 rfl rfl ?_
        refine go_iconst (pc := 205) (v := 1) d_Law_law_205 (by decide) ?_
        refine go_iadd (pc := 206) d_Law_law_206 ?_
        obtain ⟨hi18, hk⟩ := hk
        refine go_scr (pc := 207) rfl hi18 d_Law_law_207 ?_
        refine go_callV (pc := 208) (m_Host_seal  hk) cz_Host_seal cv_Host_seal (Or.inl lk_Law_31) (lay_at sh_host) rfl rfl rfl (Nat.le_of_ble_eq_true rfl) ⟨by decide, by decide⟩ rfl rfl d_Law_law_208 (fun r M' hr => ?_)
        obtain ⟨x20, μ19, rfl, rfl, hk⟩ := hr
        try dsimp only [Option.toList, List.cons_append, List.nil_append]
        refine go_aload_n (pc := 211) (i := 2) d_Law_law_211 rfl rfl ?_
        refine go_aload_n (pc := 212) (i := 0) d_Law_law_212 rfl rfl ?_
        refine go_iload_n (pc := 213) (i := 3) d_Law_law_213 rfl rfl ?_
        refine go_iconst (pc := 214) (v := 1) d_Law_law_214 (by decide) ?_
        refine go_iadd (pc := 215) d_Law_law_215 ?_
        obtain ⟨hi21, hk⟩ := hk
        refine go_scr (pc := 216) rfl hi21 d_Law_law_216 ?_
        refine go_callV (pc := 217) (m_Mod_seal  hk) cz_Mod_seal cv_Mod_seal (Or.inl lk_Law_34) (lay_at sh_model) rfl rfl rfl (Nat.le_of_ble_eq_true rfl) ⟨by decide, by decide⟩ rfl rfl d_Law_law_217 (fun r M' hr => ?_)
        obtain ⟨x23, μ22, rfl, rfl, hk⟩ := hr
        try dsimp only [Option.toList, List.cons_append, List.nil_append]
        refine go_icmp_eq (pc := 220) (tgt := 746) d_Law_law_220 rfl (fun h220 => ?_) (fun h220 => ?_)
        · replace hk := hk.1 h220
          refine go_iinc (pc := 746) (v := (v3 + 4)) (L' := [some (.ref 100003), some (.ref 0), some (.ref 91), some (.int (v3 + 4))]) d_Law_law_746 rfl rfl (by decide) rfl ?_
          refine go_goto (pc := 749) (tgt := 28) d_Law_law_749 rfl ?_
          exact ih _ _ hk
        · replace hk := hk.2 h220
          exact hK2 _ _ hk
      · replace hk := hk.2.2.2.1 hsx
        refine go_tableIn (pc := 42) (tgt := 225) d_Law_law_42 (by omega) (by omega) (by rw [hsx]; rfl) rfl ?_
        refine go_aload_n (pc := 225) (i := 1) d_Law_law_225 rfl rfl ?_
        refine go_aload_n (pc := 226) (i := 0) d_Law_law_226 rfl rfl ?_
        refine go_iload_n (pc := 227) (i := 3) d_Law_law_227 rfl rfl ?_
        refine go_iconst (pc := 228) (v := 1) d_Law_law_228 (by decide) ?_
        refine go_iadd (pc := 229) d_Law_law_229 ?_
        obtain ⟨hi24, hk⟩ := hk
        refine go_scr (pc := 230) rfl hi24 d_Law_law_230 ?_
        refine go_aload_n (pc := 231) (i := 0) d_Law_law_231 rfl rfl ?_
        refine go_iload_n (pc := 232) (i := 3) d_Law_law_232 rfl rfl ?_
        refine go_iconst (pc := 233) (v := 2) d_Law_law_233 (by decide) ?_
        refine go_iadd (pc := 234) d_Law_law_234 ?_
        obtain ⟨hi25, hk⟩ := hk
        refine go_scr (pc := 235) rfl hi25 d_Law_law_235 ?_
        refine go_callV (pc := 236) (m_Host_shape  hk) cz_Host_shape cv_Host_shape (Or.inl lk_Law_35) (lay_at sh_host) rfl rfl rfl (Nat.le_of_ble_eq_true rfl) ⟨by decide, by decide⟩ rfl rfl d_Law_law_236 (fun r M' hr => ?_)
        obtain ⟨x27, μ26, rfl, rfl, hk⟩ := hr
        try dsimp only [Option.toList, List.cons_append, List.nil_append]
        refine go_aload_n (pc := 239) (i := 2) d_Law_law_239 rfl rfl ?_
        refine go_aload_n (pc := 240) (i := 0) d_Law_law_240 rfl rfl ?_
        refine go_iload_n (pc := 241) (i := 3) d_Law_law_241 rfl rfl ?_
        refine go_iconst (pc := 242) (v := 1) d_Law_law_242 (by decide) ?_
        refine go_iadd (pc := 243) d_Law_law_243 ?_
        obtain ⟨hi28, hk⟩ := hk
        refine go_scr (pc := 244) rfl hi28 d_Law_law_244 ?_
        refine go_aload_n (pc := 245) (i := 0) d_Law_law_245 rfl rfl ?_
        refine go_iload_n (pc := 246) (i := 3) d_Law_law_246 rfl rfl ?_
        refine go_iconst (pc := 247) (v := 2) d_Law_law_247 (by decide) ?_
        refine go_iadd (pc := 248) d_Law_law_248 ?_
        obtain ⟨hi29, hk⟩ := hk
        refine go_scr (pc := 249) rfl hi29 d_Law_law_249 ?_
        refine go_callV (pc := 250) (m_Mod_shape  hk) cz_Mod_shape cv_Mod_shape (Or.inl lk_Law_39) (lay_at sh_model) rfl rfl rfl (Nat.le_of_ble_eq_true rfl) ⟨by decide, by decide⟩ rfl rfl d_Law_law_250 (fun r M' hr => ?_)
        obtain ⟨x31, μ30, rfl, rfl, hk⟩ := hr
        try dsimp only [Option.toList, List.cons_append, List.nil_append]
        refine go_icmp_eq (pc := 253) (tgt := 746) d_Law_law_253 rfl (fun h253 => ?_) (fun h253 => ?_)
        · replace hk := hk.1 h253
          refine go_iinc (pc := 746) (v := (v3 + 4)) (L' := [some (.ref 100003), some (.ref 0), some (.ref 91), some (.int (v3 + 4))]) d_Law_law_746 rfl rfl (by decide) rfl ?_
          refine go_goto (pc := 749) (tgt := 28) d_Law_law_749 rfl ?_
          exact ih _ _ hk
        · replace hk := hk.2 h253
          exact hK3 _ _ hk
      · replace hk := hk.2.2.2.2.1 hsx
        refine go_tableIn (pc := 42) (tgt := 258) d_Law_law_42 (by omega) (by omega) (by rw [hsx]; rfl) rfl ?_
        refine go_aload_n (pc := 258) (i := 1) d_Law_law_258 rfl rfl ?_
        refine go_aload_n (pc := 259) (i := 0) d_Law_law_259 rfl rfl ?_
        refine go_iload_n (pc := 260) (i := 3) d_Law_law_260 rfl rfl ?_
        refine go_iconst (pc := 261) (v := 1) d_Law_law_261 (by decide) ?_
        refine go_iadd (pc := 262) d_Law_law_262 ?_
        obtain ⟨hi32, hk⟩ := hk
        refine go_scr (pc := 263) rfl hi32 d_Law_law_263 ?_
        refine go_aload_n (pc := 264) (i := 0) d_Law_law_264 rfl rfl ?_
        refine go_iload_n (pc := 265) (i := 3) d_Law_law_265 rfl rfl ?_
        refine go_iconst (pc := 266) (v := 2) d_Law_law_266 (by decide) ?_
        refine go_iadd (pc := 267) d_Law_law_267 ?_
        obtain ⟨hi33, hk⟩ := hk
        refine go_scr (pc := 268) rfl hi33 d_Law_law_268 ?_
        refine go_aload_n (pc := 269) (i := 0) d_Law_law_269 rfl rfl ?_
        refine go_iload_n (pc := 270) (i := 3) d_Law_law_270 rfl rfl ?_
        refine go_iconst (pc := 271) (v := 3) d_Law_law_271 (by decide) ?_
        refine go_iadd (pc := 272) d_Law_law_272 ?_
        obtain ⟨hi34, hk⟩ := hk
        refine go_scr (pc := 273) rfl hi34 d_Law_law_273 ?_
        refine go_callV (pc := 274) (m_Host_share  hk) cz_Host_share cv_Host_share (Or.inl lk_Law_40) (lay_at sh_host) rfl rfl rfl (Nat.le_of_ble_eq_true rfl) ⟨by decide, by decide⟩ rfl rfl d_Law_law_274 (fun r M' hr => ?_)
        obtain ⟨x36, μ35, rfl, rfl, hk⟩ := hr
        try dsimp only [Option.toList, List.cons_append, List.nil_append]
        refine go_aload_n (pc := 277) (i := 2) d_Law_law_277 rfl rfl ?_
        refine go_aload_n (pc := 278) (i := 0) d_Law_law_278 rfl rfl ?_
        refine go_iload_n (pc := 279) (i := 3) d_Law_law_279 rfl rfl ?_
        refine go_iconst (pc := 280) (v := 1) d_Law_law_280 (by decide) ?_
        refine go_iadd (pc := 281) d_Law_law_281 ?_
        obtain ⟨hi37, hk⟩ := hk
        refine go_scr (pc := 282) rfl hi37 d_Law_law_282 ?_
        refine go_aload_n (pc := 283) (i := 0) d_Law_law_283 rfl rfl ?_
        refine go_iload_n (pc := 284) (i := 3) d_Law_law_284 rfl rfl ?_
        refine go_iconst (pc := 285) (v := 2) d_Law_law_285 (by decide) ?_
        refine go_iadd (pc := 286) d_Law_law_286 ?_
        obtain ⟨hi38, hk⟩ := hk
        refine go_scr (pc := 287) rfl hi38 d_Law_law_287 ?_
        refine go_aload_n (pc := 288) (i := 0) d_Law_law_288 rfl rfl ?_
        refine go_iload_n (pc := 289) (i := 3) d_Law_law_289 rfl rfl ?_
        refine go_iconst (pc := 290) (v := 3) d_Law_law_290 (by decide) ?_
        refine go_iadd (pc := 291) d_Law_law_291 ?_
        obtain ⟨hi39, hk⟩ := hk
        refine go_scr (pc := 292) rfl hi39 d_Law_law_292 ?_
        refine go_callV (pc := 293) (m_Mod_share  hk) cz_Mod_share cv_Mod_share (Or.inl lk_Law_43) (lay_at sh_model) rfl rfl rfl (Nat.le_of_ble_eq_true rfl) ⟨by decide, by decide⟩ rfl rfl d_Law_law_293 (fun r M' hr => ?_)
        obtain ⟨x41, μ40, rfl, rfl, hk⟩ := hr
        try dsimp only [Option.toList, List.cons_append, List.nil_append]
        refine go_icmp_eq (pc := 296) (tgt := 746) d_Law_law_296 rfl (fun h296 => ?_) (fun h296 => ?_)
        · replace hk := hk.1 h296
          refine go_iinc (pc := 746) (v := (v3 + 4)) (L' := [some (.ref 100003), some (.ref 0), some (.ref 91), some (.int (v3 + 4))]) d_Law_law_746 rfl rfl (by decide) rfl ?_
          refine go_goto (pc := 749) (tgt := 28) d_Law_law_749 rfl ?_
          exact ih _ _ hk
        · replace hk := hk.2 h296
          exact hK4 _ _ hk
      · replace hk := hk.2.2.2.2.2.1 hsx
        refine go_tableIn (pc := 42) (tgt := 301) d_Law_law_42 (by omega) (by omega) (by rw [hsx]; rfl) rfl ?_
        refine go_aload_n (pc := 301) (i := 1) d_Law_law_301 rfl rfl ?_
        refine go_aload_n (pc := 302) (i := 0) d_Law_law_302 rfl rfl ?_
        refine go_iload_n (pc := 303) (i := 3) d_Law_law_303 rfl rfl ?_
        refine go_iconst (pc := 304) (v := 1) d_Law_law_304 (by decide) ?_
        refine go_iadd (pc := 305) d_Law_law_305 ?_
        obtain ⟨hi42, hk⟩ := hk
        refine go_scr (pc := 306) rfl hi42 d_Law_law_306 ?_
        refine go_aload_n (pc := 307) (i := 0) d_Law_law_307 rfl rfl ?_
        refine go_iload_n (pc := 308) (i := 3) d_Law_law_308 rfl rfl ?_
        refine go_iconst (pc := 309) (v := 2) d_Law_law_309 (by decide) ?_
        refine go_iadd (pc := 310) d_Law_law_310 ?_
        obtain ⟨hi43, hk⟩ := hk
        refine go_scr (pc := 311) rfl hi43 d_Law_law_311 ?_
        refine go_aload_n (pc := 312) (i := 0) d_Law_law_312 rfl rfl ?_
        refine go_iload_n (pc := 313) (i := 3) d_Law_law_313 rfl rfl ?_
        refine go_iconst (pc := 314) (v := 3) d_Law_law_314 (by decide) ?_
        refine go_iadd (pc := 315) d_Law_law_315 ?_
        obtain ⟨hi44, hk⟩ := hk
        refine go_scr (pc := 316) rfl hi44 d_Law_law_316 ?_
        refine go_callV (pc := 317) (m_Host_reserve  hk) cz_Host_reserve cv_Host_reserve (Or.inl lk_Law_44) (lay_at sh_host) rfl rfl rfl (Nat.le_of_ble_eq_true rfl) ⟨by decide, by decide⟩ rfl rfl d_Law_law_317 (fun r M' hr => ?_)
        obtain ⟨x46, μ45, rfl, rfl, hk⟩ := hr
        try dsimp only [Option.toList, List.cons_append, List.nil_append]
        refine go_aload_n (pc := 320) (i := 2) d_Law_law_320 rfl rfl ?_
        refine go_aload_n (pc := 321) (i := 0) d_Law_law_321 rfl rfl ?_
        refine go_iload_n (pc := 322) (i := 3) d_Law_law_322 rfl rfl ?_
        refine go_iconst (pc := 323) (v := 1) d_Law_law_323 (by decide) ?_
        refine go_iadd (pc := 324) d_Law_law_324 ?_
        obtain ⟨hi47, hk⟩ := hk
        refine go_scr (pc := 325) rfl hi47 d_Law_law_325 ?_
        refine go_aload_n (pc := 326) (i := 0) d_Law_law_326 rfl rfl ?_
        refine go_iload_n (pc := 327) (i := 3) d_Law_law_327 rfl rfl ?_
        refine go_iconst (pc := 328) (v := 2) d_Law_law_328 (by decide) ?_
        refine go_iadd (pc := 329) d_Law_law_329 ?_
        obtain ⟨hi48, hk⟩ := hk
        refine go_scr (pc := 330) rfl hi48 d_Law_law_330 ?_
        refine go_aload_n (pc := 331) (i := 0) d_Law_law_331 rfl rfl ?_
        refine go_iload_n (pc := 332) (i := 3) d_Law_law_332 rfl rfl ?_
        refine go_iconst (pc := 333) (v := 3) d_Law_law_333 (by decide) ?_
        refine go_iadd (pc := 334) d_Law_law_334 ?_
        obtain ⟨hi49, hk⟩ := hk
        refine go_scr (pc := 335) rfl hi49 d_Law_law_335 ?_
        refine go_callV (pc := 336) (m_Mod_reserve  hk) cz_Mod_reserve cv_Mod_reserve (Or.inl lk_Law_48) (lay_at sh_model) rfl rfl rfl (Nat.le_of_ble_eq_true rfl) ⟨by decide, by decide⟩ rfl rfl d_Law_law_336 (fun r M' hr => ?_)
        obtain ⟨x51, μ50, rfl, rfl, hk⟩ := hr
        try dsimp only [Option.toList, List.cons_append, List.nil_append]
        refine go_icmp_eq (pc := 339) (tgt := 746) d_Law_law_339 rfl (fun h339 => ?_) (fun h339 => ?_)
        · replace hk := hk.1 h339
          refine go_iinc (pc := 746) (v := (v3 + 4)) (L' := [some (.ref 100003), some (.ref 0), some (.ref 91), some (.int (v3 + 4))]) d_Law_law_746 rfl rfl (by decide) rfl ?_
          refine go_goto (pc := 749) (tgt := 28) d_Law_law_749 rfl ?_
          exact ih _ _ hk
        · replace hk := hk.2 h339
          exact hK5 _ _ hk
      · replace hk := hk.2.2.2.2.2.2.1 hsx
        refine go_tableIn (pc := 42) (tgt := 344) d_Law_law_42 (by omega) (by omega) (by rw [hsx]; rfl) rfl ?_
        refine go_aload_n (pc := 344) (i := 1) d_Law_law_344 rfl rfl ?_
        refine go_aload_n (pc := 345) (i := 0) d_Law_law_345 rfl rfl ?_
        refine go_iload_n (pc := 346) (i := 3) d_Law_law_346 rfl rfl ?_
        refine go_iconst (pc := 347) (v := 1) d_Law_law_347 (by decide) ?_
        refine go_iadd (pc := 348) d_Law_law_348 ?_
        obtain ⟨hi52, hk⟩ := hk
        refine go_scr (pc := 349) rfl hi52 d_Law_law_349 ?_
        refine go_aload_n (pc := 350) (i := 0) d_Law_law_350 rfl rfl ?_
        refine go_iload_n (pc := 351) (i := 3) d_Law_law_351 rfl rfl ?_
        refine go_iconst (pc := 352) (v := 2) d_Law_law_352 (by decide) ?_
        refine go_iadd (pc := 353) d_Law_law_353 ?_
        obtain ⟨hi53, hk⟩ := hk
        refine go_scr (pc := 354) rfl hi53 d_Law_law_354 ?_
        refine go_aload_n (pc := 355) (i := 0) d_Law_law_355 rfl rfl ?_
        refine go_iload_n (pc := 356) (i := 3) d_Law_law_356 rfl rfl ?_
        refine go_iconst (pc := 357) (v := 3) d_Law_law_357 (by decide) ?_
        refine go_iadd (pc := 358) d_Law_law_358 ?_
        obtain ⟨hi54, hk⟩ := hk
        refine go_scr (pc := 359) rfl hi54 d_Law_law_359 ?_
        refine go_callV (pc := 360) (m_Host_permit  hk) cz_Host_permit cv_Host_permit (Or.inl lk_Law_49) (lay_at sh_host) rfl rfl rfl (Nat.le_of_ble_eq_true rfl) ⟨by decide, by decide⟩ rfl rfl d_Law_law_360 (fun r M' hr => ?_)
        obtain ⟨x56, μ55, rfl, rfl, hk⟩ := hr
        try dsimp only [Option.toList, List.cons_append, List.nil_append]
        refine go_aload_n (pc := 363) (i := 2) d_Law_law_363 rfl rfl ?_
        refine go_aload_n (pc := 364) (i := 0) d_Law_law_364 rfl rfl ?_
        refine go_iload_n (pc := 365) (i := 3) d_Law_law_365 rfl rfl ?_
        refine go_iconst (pc := 366) (v := 1) d_Law_law_366 (by decide) ?_
        refine go_iadd (pc := 367) d_Law_law_367 ?_
        obtain ⟨hi57, hk⟩ := hk
        refine go_scr (pc := 368) rfl hi57 d_Law_law_368 ?_
        refine go_aload_n (pc := 369) (i := 0) d_Law_law_369 rfl rfl ?_
        refine go_iload_n (pc := 370) (i := 3) d_Law_law_370 rfl rfl ?_
        refine go_iconst (pc := 371) (v := 2) d_Law_law_371 (by decide) ?_
        refine go_iadd (pc := 372) d_Law_law_372 ?_
        obtain ⟨hi58, hk⟩ := hk
        refine go_scr (pc := 373) rfl hi58 d_Law_law_373 ?_
        refine go_aload_n (pc := 374) (i := 0) d_Law_law_374 rfl rfl ?_
        refine go_iload_n (pc := 375) (i := 3) d_Law_law_375 rfl rfl ?_
        refine go_iconst (pc := 376) (v := 3) d_Law_law_376 (by decide) ?_
        refine go_iadd (pc := 377) d_Law_law_377 ?_
        obtain ⟨hi59, hk⟩ := hk
        refine go_scr (pc := 378) rfl hi59 d_Law_law_378 ?_
        refine go_callV (pc := 379) (m_Mod_permit  hk) cz_Mod_permit cv_Mod_permit (Or.inl lk_Law_52) (lay_at sh_model) rfl rfl rfl (Nat.le_of_ble_eq_true rfl) ⟨by decide, by decide⟩ rfl rfl d_Law_law_379 (fun r M' hr => ?_)
        obtain ⟨x61, μ60, rfl, rfl, hk⟩ := hr
        try dsimp only [Option.toList, List.cons_append, List.nil_append]
        refine go_icmp_eq (pc := 382) (tgt := 746) d_Law_law_382 rfl (fun h382 => ?_) (fun h382 => ?_)
        · replace hk := hk.1 h382
          refine go_iinc (pc := 746) (v := (v3 + 4)) (L' := [some (.ref 100003), some (.ref 0), some (.ref 91), some (.int (v3 + 4))]) d_Law_law_746 rfl rfl (by decide) rfl ?_
          refine go_goto (pc := 749) (tgt := 28) d_Law_law_749 rfl ?_
          exact ih _ _ hk
        · replace hk := hk.2 h382
          exact hK6 _ _ hk
      · replace hk := hk.2.2.2.2.2.2.2.1 hsx
        refine go_tableIn (pc := 42) (tgt := 387) d_Law_law_42 (by omega) (by omega) (by rw [hsx]; rfl) rfl ?_
        refine go_aload_n (pc := 387) (i := 1) d_Law_law_387 rfl rfl ?_
        refine go_aload_n (pc := 388) (i := 0) d_Law_law_388 rfl rfl ?_
        refine go_iload_n (pc := 389) (i := 3) d_Law_law_389 rfl rfl ?_
        refine go_iconst (pc := 390) (v := 1) d_Law_law_390 (by decide) ?_
        refine go_iadd (pc := 391) d_Law_law_391 ?_
        obtain ⟨hi62, hk⟩ := hk
        refine go_scr (pc := 392) rfl hi62 d_Law_law_392 ?_
        refine go_aload_n (pc := 393) (i := 0) d_Law_law_393 rfl rfl ?_
        refine go_iload_n (pc := 394) (i := 3) d_Law_law_394 rfl rfl ?_
        refine go_iconst (pc := 395) (v := 2) d_Law_law_395 (by decide) ?_
        refine go_iadd (pc := 396) d_Law_law_396 ?_
        obtain ⟨hi63, hk⟩ := hk
        refine go_scr (pc := 397) rfl hi63 d_Law_law_397 ?_
        refine go_callV (pc := 398) (m_Host_launch  hk) cz_Host_launch cv_Host_launch (Or.inl lk_Law_53) (lay_at sh_host) rfl rfl rfl (Nat.le_of_ble_eq_true rfl) ⟨by decide, by decide⟩ rfl rfl d_Law_law_398 (fun r M' hr => ?_)
        obtain ⟨x65, μ64, rfl, rfl, hk⟩ := hr
        try dsimp only [Option.toList, List.cons_append, List.nil_append]
        refine go_aload_n (pc := 401) (i := 2) d_Law_law_401 rfl rfl ?_
        refine go_aload_n (pc := 402) (i := 0) d_Law_law_402 rfl rfl ?_
        refine go_iload_n (pc := 403) (i := 3) d_Law_law_403 rfl rfl ?_
        refine go_iconst (pc := 404) (v := 1) d_Law_law_404 (by decide) ?_
        refine go_iadd (pc := 405) d_Law_law_405 ?_
        obtain ⟨hi66, hk⟩ := hk
        refine go_scr (pc := 406) rfl hi66 d_Law_law_406 ?_
        refine go_aload_n (pc := 407) (i := 0) d_Law_law_407 rfl rfl ?_
        refine go_iload_n (pc := 408) (i := 3) d_Law_law_408 rfl rfl ?_
        refine go_iconst (pc := 409) (v := 2) d_Law_law_409 (by decide) ?_
        refine go_iadd (pc := 410) d_Law_law_410 ?_
        obtain ⟨hi67, hk⟩ := hk
        refine go_scr (pc := 411) rfl hi67 d_Law_law_411 ?_
        refine go_callV (pc := 412) (m_Mod_launch  hk) cz_Mod_launch cv_Mod_launch (Or.inl lk_Law_57) (lay_at sh_model) rfl rfl rfl (Nat.le_of_ble_eq_true rfl) ⟨by decide, by decide⟩ rfl rfl d_Law_law_412 (fun r M' hr => ?_)
        obtain ⟨x69, μ68, rfl, rfl, hk⟩ := hr
        try dsimp only [Option.toList, List.cons_append, List.nil_append]
        refine go_icmp_eq (pc := 415) (tgt := 746) d_Law_law_415 rfl (fun h415 => ?_) (fun h415 => ?_)
        · replace hk := hk.1 h415
          refine go_iinc (pc := 746) (v := (v3 + 4)) (L' := [some (.ref 100003), some (.ref 0), some (.ref 91), some (.int (v3 + 4))]) d_Law_law_746 rfl rfl (by decide) rfl ?_
          refine go_goto (pc := 749) (tgt := 28) d_Law_law_749 rfl ?_
          exact ih _ _ hk
        · replace hk := hk.2 h415
          exact hK7 _ _ hk
      · replace hk := hk.2.2.2.2.2.2.2.2.1 hsx
        refine go_tableIn (pc := 42) (tgt := 420) d_Law_law_42 (by omega) (by omega) (by rw [hsx]; rfl) rfl ?_
        refine go_aload_n (pc := 420) (i := 1) d_Law_law_420 rfl rfl ?_
        refine go_aload_n (pc := 421) (i := 0) d_Law_law_421 rfl rfl ?_
        refine go_iload_n (pc := 422) (i := 3) d_Law_law_422 rfl rfl ?_
        refine go_iconst (pc := 423) (v := 1) d_Law_law_423 (by decide) ?_
        refine go_iadd (pc := 424) d_Law_law_424 ?_
        obtain ⟨hi70, hk⟩ := hk
        refine go_scr (pc := 425) rfl hi70 d_Law_law_425 ?_
        refine go_aload_n (pc := 426) (i := 0) d_Law_law_426 rfl rfl ?_
        refine go_iload_n (pc := 427) (i := 3) d_Law_law_427 rfl rfl ?_
        refine go_iconst (pc := 428) (v := 2) d_Law_law_428 (by decide) ?_
        refine go_iadd (pc := 429) d_Law_law_429 ?_
        obtain ⟨hi71, hk⟩ := hk
        refine go_scr (pc := 430) rfl hi71 d_Law_law_430 ?_
        refine go_callV (pc := 431) (m_Host_feed  hk) cz_Host_feed cv_Host_feed (Or.inl lk_Law_58) (lay_at sh_host) rfl rfl rfl (Nat.le_of_ble_eq_true rfl) ⟨by decide, by decide⟩ rfl rfl d_Law_law_431 (fun r M' hr => ?_)
        obtain ⟨x73, μ72, rfl, rfl, hk⟩ := hr
        try dsimp only [Option.toList, List.cons_append, List.nil_append]
        refine go_aload_n (pc := 434) (i := 2) d_Law_law_434 rfl rfl ?_
        refine go_aload_n (pc := 435) (i := 0) d_Law_law_435 rfl rfl ?_
        refine go_iload_n (pc := 436) (i := 3) d_Law_law_436 rfl rfl ?_
        refine go_iconst (pc := 437) (v := 1) d_Law_law_437 (by decide) ?_
        refine go_iadd (pc := 438) d_Law_law_438 ?_
        obtain ⟨hi74, hk⟩ := hk
        refine go_scr (pc := 439) rfl hi74 d_Law_law_439 ?_
        refine go_aload_n (pc := 440) (i := 0) d_Law_law_440 rfl rfl ?_
        refine go_iload_n (pc := 441) (i := 3) d_Law_law_441 rfl rfl ?_
        refine go_iconst (pc := 442) (v := 2) d_Law_law_442 (by decide) ?_
        refine go_iadd (pc := 443) d_Law_law_443 ?_
        obtain ⟨hi75, hk⟩ := hk
        refine go_scr (pc := 444) rfl hi75 d_Law_law_444 ?_
        refine go_callV (pc := 445) (m_Mod_feed  hk) cz_Mod_feed cv_Mod_feed (Or.inl lk_Law_61) (lay_at sh_model) rfl rfl rfl (Nat.le_of_ble_eq_true rfl) ⟨by decide, by decide⟩ rfl rfl d_Law_law_445 (fun r M' hr => ?_)
        obtain ⟨x77, μ76, rfl, rfl, hk⟩ := hr
        try dsimp only [Option.toList, List.cons_append, List.nil_append]
        refine go_icmp_eq (pc := 448) (tgt := 746) d_Law_law_448 rfl (fun h448 => ?_) (fun h448 => ?_)
        · replace hk := hk.1 h448
          refine go_iinc (pc := 746) (v := (v3 + 4)) (L' := [some (.ref 100003), some (.ref 0), some (.ref 91), some (.int (v3 + 4))]) d_Law_law_746 rfl rfl (by decide) rfl ?_
          refine go_goto (pc := 749) (tgt := 28) d_Law_law_749 rfl ?_
          exact ih _ _ hk
        · replace hk := hk.2 h448
          exact hK8 _ _ hk
      · replace hk := hk.2.2.2.2.2.2.2.2.2.1 hsx
        refine go_tableIn (pc := 42) (tgt := 453) d_Law_law_42 (by omega) (by omega) (by rw [hsx]; rfl) rfl ?_
        refine go_aload_n (pc := 453) (i := 1) d_Law_law_453 rfl rfl ?_
        refine go_aload_n (pc := 454) (i := 0) d_Law_law_454 rfl rfl ?_
        refine go_iload_n (pc := 455) (i := 3) d_Law_law_455 rfl rfl ?_
        refine go_iconst (pc := 456) (v := 1) d_Law_law_456 (by decide) ?_
        refine go_iadd (pc := 457) d_Law_law_457 ?_
        obtain ⟨hi78, hk⟩ := hk
        refine go_scr (pc := 458) rfl hi78 d_Law_law_458 ?_
        refine go_callV (pc := 459) (m_Host_run  hk) cz_Host_run cv_Host_run (Or.inl lk_Law_62) (lay_at sh_host) rfl rfl rfl (Nat.le_of_ble_eq_true rfl) ⟨by decide, by decide⟩ rfl rfl d_Law_law_459 (fun r M' hr => ?_)
        obtain ⟨x80, μ79, rfl, rfl, hk⟩ := hr
        try dsimp only [Option.toList, List.cons_append, List.nil_append]
        refine go_aload_n (pc := 462) (i := 2) d_Law_law_462 rfl rfl ?_
        refine go_aload_n (pc := 463) (i := 0) d_Law_law_463 rfl rfl ?_
        refine go_iload_n (pc := 464) (i := 3) d_Law_law_464 rfl rfl ?_
        refine go_iconst (pc := 465) (v := 1) d_Law_law_465 (by decide) ?_
        refine go_iadd (pc := 466) d_Law_law_466 ?_
        obtain ⟨hi81, hk⟩ := hk
        refine go_scr (pc := 467) rfl hi81 d_Law_law_467 ?_
        refine go_callV (pc := 468) (m_Mod_run  hk) cz_Mod_run cv_Mod_run (Or.inl lk_Law_66) (lay_at sh_model) rfl rfl rfl (Nat.le_of_ble_eq_true rfl) ⟨by decide, by decide⟩ rfl rfl d_Law_law_468 (fun r M' hr => ?_)
        obtain ⟨x83, μ82, rfl, rfl, hk⟩ := hr
        try dsimp only [Option.toList, List.cons_append, List.nil_append]
        refine go_icmp_eq (pc := 471) (tgt := 746) d_Law_law_471 rfl (fun h471 => ?_) (fun h471 => ?_)
        · replace hk := hk.1 h471
          refine go_iinc (pc := 746) (v := (v3 + 4)) (L' := [some (.ref 100003), some (.ref 0), some (.ref 91), some (.int (v3 + 4))]) d_Law_law_746 rfl rfl (by decide) rfl ?_
          refine go_goto (pc := 749) (tgt := 28) d_Law_law_749 rfl ?_
          exact ih _ _ hk
        · replace hk := hk.2 h471
          exact hK9 _ _ hk
      · replace hk := hk.2.2.2.2.2.2.2.2.2.2.1 hsx
        refine go_tableIn (pc := 42) (tgt := 476) d_Law_law_42 (by omega) (by omega) (by rw [hsx]; rfl) rfl ?_
        refine go_aload_n (pc := 476) (i := 1) d_Law_law_476 rfl rfl ?_
        refine go_aload_n (pc := 477) (i := 0) d_Law_law_477 rfl rfl ?_
        refine go_iload_n (pc := 478) (i := 3) d_Law_law_478 rfl rfl ?_
        refine go_iconst (pc := 479) (v := 1) d_Law_law_479 (by decide) ?_
        refine go_iadd (pc := 480) d_Law_law_480 ?_
        obtain ⟨hi84, hk⟩ := hk
        refine go_scr (pc := 481) rfl hi84 d_Law_law_481 ?_
        refine go_callV (pc := 482) (m_Host_state  hk) cz_Host_state cv_Host_state (Or.inl lk_Law_67) (lay_at sh_host) rfl rfl rfl (Nat.le_of_ble_eq_true rfl) ⟨by decide, by decide⟩ rfl rfl d_Law_law_482 (fun r M' hr => ?_)
        obtain ⟨x86, μ85, rfl, rfl, hk⟩ := hr
        try dsimp only [Option.toList, List.cons_append, List.nil_append]
        refine go_aload_n (pc := 485) (i := 2) d_Law_law_485 rfl rfl ?_
        refine go_aload_n (pc := 486) (i := 0) d_Law_law_486 rfl rfl ?_
        refine go_iload_n (pc := 487) (i := 3) d_Law_law_487 rfl rfl ?_
        refine go_iconst (pc := 488) (v := 1) d_Law_law_488 (by decide) ?_
        refine go_iadd (pc := 489) d_Law_law_489 ?_
        obtain ⟨hi87, hk⟩ := hk
        refine go_scr (pc := 490) rfl hi87 d_Law_law_490 ?_
        refine go_callV (pc := 491) (m_Mod_state  hk) cz_Mod_state cv_Mod_state (Or.inl lk_Law_70) (lay_at sh_model) rfl rfl rfl (Nat.le_of_ble_eq_true rfl) ⟨by decide, by decide⟩ rfl rfl d_Law_law_491 (fun r M' hr => ?_)
        obtain ⟨x89, μ88, rfl, rfl, hk⟩ := hr
        try dsimp only [Option.toList, List.cons_append, List.nil_append]
        refine go_icmp_eq (pc := 494) (tgt := 746) d_Law_law_494 rfl (fun h494 => ?_) (fun h494 => ?_)
        · replace hk := hk.1 h494
          refine go_iinc (pc := 746) (v := (v3 + 4)) (L' := [some (.ref 100003), some (.ref 0), some (.ref 91), some (.int (v3 + 4))]) d_Law_law_746 rfl rfl (by decide) rfl ?_
          refine go_goto (pc := 749) (tgt := 28) d_Law_law_749 rfl ?_
          exact ih _ _ hk
        · replace hk := hk.2 h494
          exact hK10 _ _ hk
      · replace hk := hk.2.2.2.2.2.2.2.2.2.2.2.1 hsx
        refine go_tableIn (pc := 42) (tgt := 499) d_Law_law_42 (by omega) (by omega) (by rw [hsx]; rfl) rfl ?_
        refine go_aload_n (pc := 499) (i := 1) d_Law_law_499 rfl rfl ?_
        refine go_aload_n (pc := 500) (i := 0) d_Law_law_500 rfl rfl ?_
        refine go_iload_n (pc := 501) (i := 3) d_Law_law_501 rfl rfl ?_
        refine go_iconst (pc := 502) (v := 1) d_Law_law_502 (by decide) ?_
        refine go_iadd (pc := 503) d_Law_law_503 ?_
        obtain ⟨hi90, hk⟩ := hk
        refine go_scr (pc := 504) rfl hi90 d_Law_law_504 ?_
        refine go_callV (pc := 505) (m_Host_steps  hk) cz_Host_steps cv_Host_steps (Or.inl lk_Law_71) (lay_at sh_host) rfl rfl rfl (Nat.le_of_ble_eq_true rfl) ⟨by decide, by decide⟩ rfl rfl d_Law_law_505 (fun r M' hr => ?_)
        obtain ⟨x92, μ91, rfl, rfl, hk⟩ := hr
        try dsimp only [Option.toList, List.cons_append, List.nil_append]
        refine go_aload_n (pc := 508) (i := 2) d_Law_law_508 rfl rfl ?_
        refine go_aload_n (pc := 509) (i := 0) d_Law_law_509 rfl rfl ?_
        refine go_iload_n (pc := 510) (i := 3) d_Law_law_510 rfl rfl ?_
        refine go_iconst (pc := 511) (v := 1) d_Law_law_511 (by decide) ?_
        refine go_iadd (pc := 512) d_Law_law_512 ?_
        obtain ⟨hi93, hk⟩ := hk
        refine go_scr (pc := 513) rfl hi93 d_Law_law_513 ?_
        refine go_callV (pc := 514) (m_Mod_steps  hk) cz_Mod_steps cv_Mod_steps (Or.inl lk_Law_74) (lay_at sh_model) rfl rfl rfl (Nat.le_of_ble_eq_true rfl) ⟨by decide, by decide⟩ rfl rfl d_Law_law_514 (fun r M' hr => ?_)
        obtain ⟨x95, μ94, rfl, rfl, hk⟩ := hr
        try dsimp only [Option.toList, List.cons_append, List.nil_append]
        refine go_icmp_eq (pc := 517) (tgt := 746) d_Law_law_517 rfl (fun h517 => ?_) (fun h517 => ?_)
        · replace hk := hk.1 h517
          refine go_iinc (pc := 746) (v := (v3 + 4)) (L' := [some (.ref 100003), some (.ref 0), some (.ref 91), some (.int (v3 + 4))]) d_Law_law_746 rfl rfl (by decide) rfl ?_
          refine go_goto (pc := 749) (tgt := 28) d_Law_law_749 rfl ?_
          exact ih _ _ hk
        · replace hk := hk.2 h517
          exact hK11 _ _ hk
      · replace hk := hk.2.2.2.2.2.2.2.2.2.2.2.2.1 hsx
        refine go_tableIn (pc := 42) (tgt := 522) d_Law_law_42 (by omega) (by omega) (by rw [hsx]; rfl) rfl ?_
        refine go_aload_n (pc := 522) (i := 1) d_Law_law_522 rfl rfl ?_
        refine go_aload_n (pc := 523) (i := 0) d_Law_law_523 rfl rfl ?_
        refine go_iload_n (pc := 524) (i := 3) d_Law_law_524 rfl rfl ?_
        refine go_iconst (pc := 525) (v := 1) d_Law_law_525 (by decide) ?_
        refine go_iadd (pc := 526) d_Law_law_526 ?_
        obtain ⟨hi96, hk⟩ := hk
        refine go_scr (pc := 527) rfl hi96 d_Law_law_527 ?_
        refine go_callV (pc := 528) (m_Host_used  hk) cz_Host_used cv_Host_used (Or.inl lk_Law_75) (lay_at sh_host) rfl rfl rfl (Nat.le_of_ble_eq_true rfl) ⟨by decide, by decide⟩ rfl rfl d_Law_law_528 (fun r M' hr => ?_)
        obtain ⟨x98, μ97, rfl, rfl, hk⟩ := hr
        try dsimp only [Option.toList, List.cons_append, List.nil_append]
        refine go_aload_n (pc := 531) (i := 2) d_Law_law_531 rfl rfl ?_
        refine go_aload_n (pc := 532) (i := 0) d_Law_law_532 rfl rfl ?_
        refine go_iload_n (pc := 533) (i := 3) d_Law_law_533 rfl rfl ?_
        refine go_iconst (pc := 534) (v := 1) d_Law_law_534 (by decide) ?_
        refine go_iadd (pc := 535) d_Law_law_535 ?_
        obtain ⟨hi99, hk⟩ := hk
        refine go_scr (pc := 536) rfl hi99 d_Law_law_536 ?_
        refine go_callV (pc := 537) (m_Mod_used  hk) cz_Mod_used cv_Mod_used (Or.inl lk_Law_78) (lay_at sh_model) rfl rfl rfl (Nat.le_of_ble_eq_true rfl) ⟨by decide, by decide⟩ rfl rfl d_Law_law_537 (fun r M' hr => ?_)
        obtain ⟨x101, μ100, rfl, rfl, hk⟩ := hr
        try dsimp only [Option.toList, List.cons_append, List.nil_append]
        refine go_icmp_eq (pc := 540) (tgt := 746) d_Law_law_540 rfl (fun h540 => ?_) (fun h540 => ?_)
        · replace hk := hk.1 h540
          refine go_iinc (pc := 746) (v := (v3 + 4)) (L' := [some (.ref 100003), some (.ref 0), some (.ref 91), some (.int (v3 + 4))]) d_Law_law_746 rfl rfl (by decide) rfl ?_
          refine go_goto (pc := 749) (tgt := 28) d_Law_law_749 rfl ?_
          exact ih _ _ hk
        · replace hk := hk.2 h540
          exact hK12 _ _ hk
      · replace hk := hk.2.2.2.2.2.2.2.2.2.2.2.2.2.1 hsx
        refine go_tableIn (pc := 42) (tgt := 545) d_Law_law_42 (by omega) (by omega) (by rw [hsx]; rfl) rfl ?_
        refine go_aload_n (pc := 545) (i := 1) d_Law_law_545 rfl rfl ?_
        refine go_aload_n (pc := 546) (i := 0) d_Law_law_546 rfl rfl ?_
        refine go_iload_n (pc := 547) (i := 3) d_Law_law_547 rfl rfl ?_
        refine go_iconst (pc := 548) (v := 1) d_Law_law_548 (by decide) ?_
        refine go_iadd (pc := 549) d_Law_law_549 ?_
        obtain ⟨hi102, hk⟩ := hk
        refine go_scr (pc := 550) rfl hi102 d_Law_law_550 ?_
        refine go_callV (pc := 551) (m_Host_live  hk) cz_Host_live cv_Host_live (Or.inl lk_Law_79) (lay_at sh_host) rfl rfl rfl (Nat.le_of_ble_eq_true rfl) ⟨by decide, by decide⟩ rfl rfl d_Law_law_551 (fun r M' hr => ?_)
        obtain ⟨x104, μ103, rfl, rfl, hk⟩ := hr
        try dsimp only [Option.toList, List.cons_append, List.nil_append]
        refine go_aload_n (pc := 554) (i := 2) d_Law_law_554 rfl rfl ?_
        refine go_aload_n (pc := 555) (i := 0) d_Law_law_555 rfl rfl ?_
        refine go_iload_n (pc := 556) (i := 3) d_Law_law_556 rfl rfl ?_
        refine go_iconst (pc := 557) (v := 1) d_Law_law_557 (by decide) ?_
        refine go_iadd (pc := 558) d_Law_law_558 ?_
        obtain ⟨hi105, hk⟩ := hk
        refine go_scr (pc := 559) rfl hi105 d_Law_law_559 ?_
        refine go_callV (pc := 560) (m_Mod_live  hk) cz_Mod_live cv_Mod_live (Or.inl lk_Law_82) (lay_at sh_model) rfl rfl rfl (Nat.le_of_ble_eq_true rfl) ⟨by decide, by decide⟩ rfl rfl d_Law_law_560 (fun r M' hr => ?_)
        obtain ⟨x107, μ106, rfl, rfl, hk⟩ := hr
        try dsimp only [Option.toList, List.cons_append, List.nil_append]
        refine go_icmp_eq (pc := 563) (tgt := 746) d_Law_law_563 rfl (fun h563 => ?_) (fun h563 => ?_)
        · replace hk := hk.1 h563
          refine go_iinc (pc := 746) (v := (v3 + 4)) (L' := [some (.ref 100003), some (.ref 0), some (.ref 91), some (.int (v3 + 4))]) d_Law_law_746 rfl rfl (by decide) rfl ?_
          refine go_goto (pc := 749) (tgt := 28) d_Law_law_749 rfl ?_
          exact ih _ _ hk
        · replace hk := hk.2 h563
          exact hK13 _ _ hk
      · replace hk := hk.2.2.2.2.2.2.2.2.2.2.2.2.2.2.1 hsx
        refine go_tableIn (pc := 42) (tgt := 568) d_Law_law_42 (by omega) (by omega) (by rw [hsx]; rfl) rfl ?_
        refine go_aload_n (pc := 568) (i := 1) d_Law_law_568 rfl rfl ?_
        refine go_aload_n (pc := 569) (i := 0) d_Law_law_569 rfl rfl ?_
        refine go_iload_n (pc := 570) (i := 3) d_Law_law_570 rfl rfl ?_
        refine go_iconst (pc := 571) (v := 1) d_Law_law_571 (by decide) ?_
        refine go_iadd (pc := 572) d_Law_law_572 ?_
        obtain ⟨hi108, hk⟩ := hk
        refine go_scr (pc := 573) rfl hi108 d_Law_law_573 ?_
        refine go_callV (pc := 574) (m_Host_collections  hk) cz_Host_collections cv_Host_collections (Or.inl lk_Law_83) (lay_at sh_host) rfl rfl rfl (Nat.le_of_ble_eq_true rfl) ⟨by decide, by decide⟩ rfl rfl d_Law_law_574 (fun r M' hr => ?_)
        obtain ⟨x110, μ109, rfl, rfl, hk⟩ := hr
        try dsimp only [Option.toList, List.cons_append, List.nil_append]
        refine go_aload_n (pc := 577) (i := 2) d_Law_law_577 rfl rfl ?_
        refine go_aload_n (pc := 578) (i := 0) d_Law_law_578 rfl rfl ?_
        refine go_iload_n (pc := 579) (i := 3) d_Law_law_579 rfl rfl ?_
        refine go_iconst (pc := 580) (v := 1) d_Law_law_580 (by decide) ?_
        refine go_iadd (pc := 581) d_Law_law_581 ?_
        obtain ⟨hi111, hk⟩ := hk
        refine go_scr (pc := 582) rfl hi111 d_Law_law_582 ?_
        refine go_callV (pc := 583) (m_Mod_collections  hk) cz_Mod_collections cv_Mod_collections (Or.inl lk_Law_86) (lay_at sh_model) rfl rfl rfl (Nat.le_of_ble_eq_true rfl) ⟨by decide, by decide⟩ rfl rfl d_Law_law_583 (fun r M' hr => ?_)
        obtain ⟨x113, μ112, rfl, rfl, hk⟩ := hr
        try dsimp only [Option.toList, List.cons_append, List.nil_append]
        refine go_icmp_eq (pc := 586) (tgt := 746) d_Law_law_586 rfl (fun h586 => ?_) (fun h586 => ?_)
        · replace hk := hk.1 h586
          refine go_iinc (pc := 746) (v := (v3 + 4)) (L' := [some (.ref 100003), some (.ref 0), some (.ref 91), some (.int (v3 + 4))]) d_Law_law_746 rfl rfl (by decide) rfl ?_
          refine go_goto (pc := 749) (tgt := 28) d_Law_law_749 rfl ?_
          exact ih _ _ hk
        · replace hk := hk.2 h586
          exact hK14 _ _ hk
      · replace hk := hk.2.2.2.2.2.2.2.2.2.2.2.2.2.2.2.1 hsx
        refine go_tableIn (pc := 42) (tgt := 591) d_Law_law_42 (by omega) (by omega) (by rw [hsx]; rfl) rfl ?_
        refine go_aload_n (pc := 591) (i := 1) d_Law_law_591 rfl rfl ?_
        refine go_aload_n (pc := 592) (i := 0) d_Law_law_592 rfl rfl ?_
        refine go_iload_n (pc := 593) (i := 3) d_Law_law_593 rfl rfl ?_
        refine go_iconst (pc := 594) (v := 1) d_Law_law_594 (by decide) ?_
        refine go_iadd (pc := 595) d_Law_law_595 ?_
        obtain ⟨hi114, hk⟩ := hk
        refine go_scr (pc := 596) rfl hi114 d_Law_law_596 ?_
        refine go_callV (pc := 597) (m_Host_ended  hk) cz_Host_ended cv_Host_ended (Or.inl lk_Law_87) (lay_at sh_host) rfl rfl rfl (Nat.le_of_ble_eq_true rfl) ⟨by decide, by decide⟩ rfl rfl d_Law_law_597 (fun r M' hr => ?_)
        obtain ⟨x116, μ115, rfl, rfl, hk⟩ := hr
        try dsimp only [Option.toList, List.cons_append, List.nil_append]
        refine go_aload_n (pc := 600) (i := 2) d_Law_law_600 rfl rfl ?_
        refine go_aload_n (pc := 601) (i := 0) d_Law_law_601 rfl rfl ?_
        refine go_iload_n (pc := 602) (i := 3) d_Law_law_602 rfl rfl ?_
        refine go_iconst (pc := 603) (v := 1) d_Law_law_603 (by decide) ?_
        refine go_iadd (pc := 604) d_Law_law_604 ?_
        obtain ⟨hi117, hk⟩ := hk
        refine go_scr (pc := 605) rfl hi117 d_Law_law_605 ?_
        refine go_callV (pc := 606) (m_Mod_ended  hk) cz_Mod_ended cv_Mod_ended (Or.inl lk_Law_90) (lay_at sh_model) rfl rfl rfl (Nat.le_of_ble_eq_true rfl) ⟨by decide, by decide⟩ rfl rfl d_Law_law_606 (fun r M' hr => ?_)
        obtain ⟨x119, μ118, rfl, rfl, hk⟩ := hr
        try dsimp only [Option.toList, List.cons_append, List.nil_append]
        refine go_icmp_eq (pc := 609) (tgt := 746) d_Law_law_609 rfl (fun h609 => ?_) (fun h609 => ?_)
        · replace hk := hk.1 h609
          refine go_iinc (pc := 746) (v := (v3 + 4)) (L' := [some (.ref 100003), some (.ref 0), some (.ref 91), some (.int (v3 + 4))]) d_Law_law_746 rfl rfl (by decide) rfl ?_
          refine go_goto (pc := 749) (tgt := 28) d_Law_law_749 rfl ?_
          exact ih _ _ hk
        · replace hk := hk.2 h609
          exact hK15 _ _ hk
      · replace hk := hk.2.2.2.2.2.2.2.2.2.2.2.2.2.2.2.2.1 hsx
        refine go_tableIn (pc := 42) (tgt := 614) d_Law_law_42 (by omega) (by omega) (by rw [hsx]; rfl) rfl ?_
        refine go_aload_n (pc := 614) (i := 1) d_Law_law_614 rfl rfl ?_
        refine go_aload_n (pc := 615) (i := 0) d_Law_law_615 rfl rfl ?_
        refine go_iload_n (pc := 616) (i := 3) d_Law_law_616 rfl rfl ?_
        refine go_iconst (pc := 617) (v := 1) d_Law_law_617 (by decide) ?_
        refine go_iadd (pc := 618) d_Law_law_618 ?_
        obtain ⟨hi120, hk⟩ := hk
        refine go_scr (pc := 619) rfl hi120 d_Law_law_619 ?_
        refine go_callV (pc := 620) (m_Host_messages  hk) cz_Host_messages cv_Host_messages (Or.inl lk_Law_91) (lay_at sh_host) rfl rfl rfl (Nat.le_of_ble_eq_true rfl) ⟨by decide, by decide⟩ rfl rfl d_Law_law_620 (fun r M' hr => ?_)
        obtain ⟨x122, μ121, rfl, rfl, hk⟩ := hr
        try dsimp only [Option.toList, List.cons_append, List.nil_append]
        refine go_aload_n (pc := 623) (i := 2) d_Law_law_623 rfl rfl ?_
        refine go_aload_n (pc := 624) (i := 0) d_Law_law_624 rfl rfl ?_
        refine go_iload_n (pc := 625) (i := 3) d_Law_law_625 rfl rfl ?_
        refine go_iconst (pc := 626) (v := 1) d_Law_law_626 (by decide) ?_
        refine go_iadd (pc := 627) d_Law_law_627 ?_
        obtain ⟨hi123, hk⟩ := hk
        refine go_scr (pc := 628) rfl hi123 d_Law_law_628 ?_
        refine go_callV (pc := 629) (m_Mod_messages  hk) cz_Mod_messages cv_Mod_messages (Or.inl lk_Law_94) (lay_at sh_model) rfl rfl rfl (Nat.le_of_ble_eq_true rfl) ⟨by decide, by decide⟩ rfl rfl d_Law_law_629 (fun r M' hr => ?_)
        obtain ⟨x125, μ124, rfl, rfl, hk⟩ := hr
        try dsimp only [Option.toList, List.cons_append, List.nil_append]
        refine go_icmp_eq (pc := 632) (tgt := 746) d_Law_law_632 rfl (fun h632 => ?_) (fun h632 => ?_)
        · replace hk := hk.1 h632
          refine go_iinc (pc := 746) (v := (v3 + 4)) (L' := [some (.ref 100003), some (.ref 0), some (.ref 91), some (.int (v3 + 4))]) d_Law_law_746 rfl rfl (by decide) rfl ?_
          refine go_goto (pc := 749) (tgt := 28) d_Law_law_749 rfl ?_
          exact ih _ _ hk
        · replace hk := hk.2 h632
          exact hK16 _ _ hk
      · replace hk := hk.2.2.2.2.2.2.2.2.2.2.2.2.2.2.2.2.2.1 hsx
        refine go_tableIn (pc := 42) (tgt := 637) d_Law_law_42 (by omega) (by omega) (by rw [hsx]; rfl) rfl ?_
        refine go_aload_n (pc := 637) (i := 1) d_Law_law_637 rfl rfl ?_
        refine go_aload_n (pc := 638) (i := 0) d_Law_law_638 rfl rfl ?_
        refine go_iload_n (pc := 639) (i := 3) d_Law_law_639 rfl rfl ?_
        refine go_iconst (pc := 640) (v := 1) d_Law_law_640 (by decide) ?_
        refine go_iadd (pc := 641) d_Law_law_641 ?_
        obtain ⟨hi126, hk⟩ := hk
        refine go_scr (pc := 642) rfl hi126 d_Law_law_642 ?_
        refine go_aload_n (pc := 643) (i := 0) d_Law_law_643 rfl rfl ?_
        refine go_iload_n (pc := 644) (i := 3) d_Law_law_644 rfl rfl ?_
        refine go_iconst (pc := 645) (v := 2) d_Law_law_645 (by decide) ?_
        refine go_iadd (pc := 646) d_Law_law_646 ?_
        obtain ⟨hi127, hk⟩ := hk
        refine go_scr (pc := 647) rfl hi127 d_Law_law_647 ?_
        refine go_callV (pc := 648) (m_Host_output  hk) cz_Host_output cv_Host_output (Or.inl lk_Law_95) (lay_at sh_host) rfl rfl rfl (Nat.le_of_ble_eq_true rfl) ⟨by decide, by decide⟩ rfl rfl d_Law_law_648 (fun r M' hr => ?_)
        obtain ⟨x129, μ128, rfl, rfl, hk⟩ := hr
        try dsimp only [Option.toList, List.cons_append, List.nil_append]
        refine go_aload_n (pc := 651) (i := 2) d_Law_law_651 rfl rfl ?_
        refine go_aload_n (pc := 652) (i := 0) d_Law_law_652 rfl rfl ?_
        refine go_iload_n (pc := 653) (i := 3) d_Law_law_653 rfl rfl ?_
        refine go_iconst (pc := 654) (v := 1) d_Law_law_654 (by decide) ?_
        refine go_iadd (pc := 655) d_Law_law_655 ?_
        obtain ⟨hi130, hk⟩ := hk
        refine go_scr (pc := 656) rfl hi130 d_Law_law_656 ?_
        refine go_aload_n (pc := 657) (i := 0) d_Law_law_657 rfl rfl ?_
        refine go_iload_n (pc := 658) (i := 3) d_Law_law_658 rfl rfl ?_
        refine go_iconst (pc := 659) (v := 2) d_Law_law_659 (by decide) ?_
        refine go_iadd (pc := 660) d_Law_law_660 ?_
        obtain ⟨hi131, hk⟩ := hk
        refine go_scr (pc := 661) rfl hi131 d_Law_law_661 ?_
        refine go_callV (pc := 662) (m_Mod_output  hk) cz_Mod_output cv_Mod_output (Or.inl lk_Law_98) (lay_at sh_model) rfl rfl rfl (Nat.le_of_ble_eq_true rfl) ⟨by decide, by decide⟩ rfl rfl d_Law_law_662 (fun r M' hr => ?_)
        obtain ⟨x133, μ132, rfl, rfl, hk⟩ := hr
        try dsimp only [Option.toList, List.cons_append, List.nil_append]
        refine go_icmp_eq (pc := 665) (tgt := 746) d_Law_law_665 rfl (fun h665 => ?_) (fun h665 => ?_)
        · replace hk := hk.1 h665
          refine go_iinc (pc := 746) (v := (v3 + 4)) (L' := [some (.ref 100003), some (.ref 0), some (.ref 91), some (.int (v3 + 4))]) d_Law_law_746 rfl rfl (by decide) rfl ?_
          refine go_goto (pc := 749) (tgt := 28) d_Law_law_749 rfl ?_
          exact ih _ _ hk
        · replace hk := hk.2 h665
          exact hK17 _ _ hk
      · replace hk := hk.2.2.2.2.2.2.2.2.2.2.2.2.2.2.2.2.2.2.1 hsx
        refine go_tableIn (pc := 42) (tgt := 670) d_Law_law_42 (by omega) (by omega) (by rw [hsx]; rfl) rfl ?_
        refine go_aload_n (pc := 670) (i := 1) d_Law_law_670 rfl rfl ?_
        refine go_aload_n (pc := 671) (i := 0) d_Law_law_671 rfl rfl ?_
        refine go_iload_n (pc := 672) (i := 3) d_Law_law_672 rfl rfl ?_
        refine go_iconst (pc := 673) (v := 1) d_Law_law_673 (by decide) ?_
        refine go_iadd (pc := 674) d_Law_law_674 ?_
        obtain ⟨hi134, hk⟩ := hk
        refine go_scr (pc := 675) rfl hi134 d_Law_law_675 ?_
        refine go_aload_n (pc := 676) (i := 0) d_Law_law_676 rfl rfl ?_
        refine go_iload_n (pc := 677) (i := 3) d_Law_law_677 rfl rfl ?_
        refine go_iconst (pc := 678) (v := 2) d_Law_law_678 (by decide) ?_
        refine go_iadd (pc := 679) d_Law_law_679 ?_
        obtain ⟨hi135, hk⟩ := hk
        refine go_scr (pc := 680) rfl hi135 d_Law_law_680 ?_
        refine go_callV (pc := 681) (m_Host_local  hk) cz_Host_local cv_Host_local (Or.inl lk_Law_99) (lay_at sh_host) rfl rfl rfl (Nat.le_of_ble_eq_true rfl) ⟨by decide, by decide⟩ rfl rfl d_Law_law_681 (fun r M' hr => ?_)
        obtain ⟨x137, μ136, rfl, rfl, hk⟩ := hr
        try dsimp only [Option.toList, List.cons_append, List.nil_append]
        refine go_aload_n (pc := 684) (i := 2) d_Law_law_684 rfl rfl ?_
        refine go_aload_n (pc := 685) (i := 0) d_Law_law_685 rfl rfl ?_
        refine go_iload_n (pc := 686) (i := 3) d_Law_law_686 rfl rfl ?_
        refine go_iconst (pc := 687) (v := 1) d_Law_law_687 (by decide) ?_
        refine go_iadd (pc := 688) d_Law_law_688 ?_
        obtain ⟨hi138, hk⟩ := hk
        refine go_scr (pc := 689) rfl hi138 d_Law_law_689 ?_
        refine go_aload_n (pc := 690) (i := 0) d_Law_law_690 rfl rfl ?_
        refine go_iload_n (pc := 691) (i := 3) d_Law_law_691 rfl rfl ?_
        refine go_iconst (pc := 692) (v := 2) d_Law_law_692 (by decide) ?_
        refine go_iadd (pc := 693) d_Law_law_693 ?_
        obtain ⟨hi139, hk⟩ := hk
        refine go_scr (pc := 694) rfl hi139 d_Law_law_694 ?_
        refine go_callV (pc := 695) (m_Mod_local  hk) cz_Mod_local cv_Mod_local (Or.inl lk_Law_102) (lay_at sh_model) rfl rfl rfl (Nat.le_of_ble_eq_true rfl) ⟨by decide, by decide⟩ rfl rfl d_Law_law_695 (fun r M' hr => ?_)
        obtain ⟨x141, μ140, rfl, rfl, hk⟩ := hr
        try dsimp only [Option.toList, List.cons_append, List.nil_append]
        refine go_icmp_eq (pc := 698) (tgt := 746) d_Law_law_698 rfl (fun h698 => ?_) (fun h698 => ?_)
        · replace hk := hk.1 h698
          refine go_iinc (pc := 746) (v := (v3 + 4)) (L' := [some (.ref 100003), some (.ref 0), some (.ref 91), some (.int (v3 + 4))]) d_Law_law_746 rfl rfl (by decide) rfl ?_
          refine go_goto (pc := 749) (tgt := 28) d_Law_law_749 rfl ?_
          exact ih _ _ hk
        · replace hk := hk.2 h698
          exact hK18 _ _ hk
      · replace hk := hk.2.2.2.2.2.2.2.2.2.2.2.2.2.2.2.2.2.2.2 hsx
        refine go_tableIn (pc := 42) (tgt := 703) d_Law_law_42 (by omega) (by omega) (by rw [hsx]; rfl) rfl ?_
        refine go_aload_n (pc := 703) (i := 1) d_Law_law_703 rfl rfl ?_
        refine go_aload_n (pc := 704) (i := 0) d_Law_law_704 rfl rfl ?_
        refine go_iload_n (pc := 705) (i := 3) d_Law_law_705 rfl rfl ?_
        refine go_iconst (pc := 706) (v := 1) d_Law_law_706 (by decide) ?_
        refine go_iadd (pc := 707) d_Law_law_707 ?_
        obtain ⟨hi142, hk⟩ := hk
        refine go_scr (pc := 708) rfl hi142 d_Law_law_708 ?_
        refine go_aload_n (pc := 709) (i := 0) d_Law_law_709 rfl rfl ?_
        refine go_iload_n (pc := 710) (i := 3) d_Law_law_710 rfl rfl ?_
        refine go_iconst (pc := 711) (v := 2) d_Law_law_711 (by decide) ?_
        refine go_iadd (pc := 712) d_Law_law_712 ?_
        obtain ⟨hi143, hk⟩ := hk
        refine go_scr (pc := 713) rfl hi143 d_Law_law_713 ?_
        refine go_aload_n (pc := 714) (i := 0) d_Law_law_714 rfl rfl ?_
        refine go_iload_n (pc := 715) (i := 3) d_Law_law_715 rfl rfl ?_
        refine go_iconst (pc := 716) (v := 3) d_Law_law_716 (by decide) ?_
        refine go_iadd (pc := 717) d_Law_law_717 ?_
        obtain ⟨hi144, hk⟩ := hk
        refine go_scr (pc := 718) rfl hi144 d_Law_law_718 ?_
        refine go_callV (pc := 719) (m_Host_look  hk) cz_Host_look cv_Host_look (Or.inl lk_Law_103) (lay_at sh_host) rfl rfl rfl (Nat.le_of_ble_eq_true rfl) ⟨by decide, by decide⟩ rfl rfl d_Law_law_719 (fun r M' hr => ?_)
        obtain ⟨x146, μ145, rfl, rfl, hk⟩ := hr
        try dsimp only [Option.toList, List.cons_append, List.nil_append]
        refine go_aload_n (pc := 722) (i := 2) d_Law_law_722 rfl rfl ?_
        refine go_aload_n (pc := 723) (i := 0) d_Law_law_723 rfl rfl ?_
        refine go_iload_n (pc := 724) (i := 3) d_Law_law_724 rfl rfl ?_
        refine go_iconst (pc := 725) (v := 1) d_Law_law_725 (by decide) ?_
        refine go_iadd (pc := 726) d_Law_law_726 ?_
        obtain ⟨hi147, hk⟩ := hk
        refine go_scr (pc := 727) rfl hi147 d_Law_law_727 ?_
        refine go_aload_n (pc := 728) (i := 0) d_Law_law_728 rfl rfl ?_
        refine go_iload_n (pc := 729) (i := 3) d_Law_law_729 rfl rfl ?_
        refine go_iconst (pc := 730) (v := 2) d_Law_law_730 (by decide) ?_
        refine go_iadd (pc := 731) d_Law_law_731 ?_
        obtain ⟨hi148, hk⟩ := hk
        refine go_scr (pc := 732) rfl hi148 d_Law_law_732 ?_
        refine go_aload_n (pc := 733) (i := 0) d_Law_law_733 rfl rfl ?_
        refine go_iload_n (pc := 734) (i := 3) d_Law_law_734 rfl rfl ?_
        refine go_iconst (pc := 735) (v := 3) d_Law_law_735 (by decide) ?_
        refine go_iadd (pc := 736) d_Law_law_736 ?_
        obtain ⟨hi149, hk⟩ := hk
        refine go_scr (pc := 737) rfl hi149 d_Law_law_737 ?_
        refine go_callV (pc := 738) (m_Mod_look  hk) cz_Mod_look cv_Mod_look (Or.inl lk_Law_106) (lay_at sh_model) rfl rfl rfl (Nat.le_of_ble_eq_true rfl) ⟨by decide, by decide⟩ rfl rfl d_Law_law_738 (fun r M' hr => ?_)
        obtain ⟨x151, μ150, rfl, rfl, hk⟩ := hr
        try dsimp only [Option.toList, List.cons_append, List.nil_append]
        refine go_icmp_eq (pc := 741) (tgt := 746) d_Law_law_741 rfl (fun h741 => ?_) (fun h741 => ?_)
        · replace hk := hk.1 h741
          refine go_iinc (pc := 746) (v := (v3 + 4)) (L' := [some (.ref 100003), some (.ref 0), some (.ref 91), some (.int (v3 + 4))]) d_Law_law_746 rfl rfl (by decide) rfl ?_
          refine go_goto (pc := 749) (tgt := 28) d_Law_law_749 rfl ?_
          exact ih _ _ hk
        · replace hk := hk.2 h741
          exact hK19 _ _ hk
def wp_Law_main (sn : Nat) (sx : Nat → Int32) (μ : Mu) (Q : Int32 → Mu → Prop) : Prop := (∃ n28, wp_Law_law_28 sn sx (fun v152 μ153 => Q (0 : Int32) μ153) (fun v154 μ155 => Q (0 : Int32) μ155) (fun v156 μ157 => Q (0 : Int32) μ157) (fun v158 μ159 => Q (0 : Int32) μ159) (fun v160 μ161 => Q (0 : Int32) μ161) (fun v162 μ163 => Q (0 : Int32) μ163) (fun v164 μ165 => Q (0 : Int32) μ165) (fun v166 μ167 => Q (0 : Int32) μ167) (fun v168 μ169 => Q (0 : Int32) μ169) (fun v170 μ171 => Q (0 : Int32) μ171) (fun v172 μ173 => Q (0 : Int32) μ173) (fun v174 μ175 => Q (0 : Int32) μ175) (fun v176 μ177 => Q (0 : Int32) μ177) (fun v178 μ179 => Q (0 : Int32) μ179) (fun v180 μ181 => Q (0 : Int32) μ181) (fun v182 μ183 => Q (0 : Int32) μ183) (fun v184 μ185 => Q (0 : Int32) μ185) (fun v186 μ187 => Q (0 : Int32) μ187) (fun v188 μ189 => Q (0 : Int32) μ189) (fun v190 μ191 => Q (0 : Int32) μ191) (fun v192 μ193 => Q (1 : Int32) μ193) Q n28 (1 : Int32) μ)
set_option maxRecDepth 100000 in
set_option maxHeartbeats 4000000 in
theorem g_Law_main {l : Launch} {sn : Nat} {sx : Nat → Int32} {μ : Mu} {Q : Int32 → Mu → Prop} (hk : wp_Law_main sn sx μ Q) : Go (l, scT sn sx) mt_Law_law true room_1 LCS LSS 28 [some (.ref 100003), some (.ref 0), some (.ref 91), some (.int (1 : Int32))] [] (lay μ) (PI Q) := by
  unfold wp_Law_main at hk
  obtain ⟨n, hk⟩ := hk
  refine g_Law_law_28  (fun v152 μ153 hk => ?_) (fun v154 μ155 hk => ?_) (fun v156 μ157 hk => ?_) (fun v158 μ159 hk => ?_) (fun v160 μ161 hk => ?_) (fun v162 μ163 hk => ?_) (fun v164 μ165 hk => ?_) (fun v166 μ167 hk => ?_) (fun v168 μ169 hk => ?_) (fun v170 μ171 hk => ?_) (fun v172 μ173 hk => ?_) (fun v174 μ175 hk => ?_) (fun v176 μ177 hk => ?_) (fun v178 μ179 hk => ?_) (fun v180 μ181 hk => ?_) (fun v182 μ183 hk => ?_) (fun v184 μ185 hk => ?_) (fun v186 μ187 hk => ?_) (fun v188 μ189 hk => ?_) (fun v190 μ191 hk => ?_) (fun v192 μ193 hk => ?_) n _ _ hk
  · try dsimp only at hk
    refine go_iconst (pc := 177) (v := 0) d_Law_law_177 (by decide) ?_
    exact go_ret (pc := 178) (r := some (.int (0 : Int32))) ⟨nar_zv (by decide), d_Law_law_178⟩ ⟨_, _, rfl, rfl, hk⟩
  · try dsimp only at hk
    refine go_iconst (pc := 200) (v := 0) d_Law_law_200 (by decide) ?_
    exact go_ret (pc := 201) (r := some (.int (0 : Int32))) ⟨nar_zv (by decide), d_Law_law_201⟩ ⟨_, _, rfl, rfl, hk⟩
  · try dsimp only at hk
    refine go_iconst (pc := 223) (v := 0) d_Law_law_223 (by decide) ?_
    exact go_ret (pc := 224) (r := some (.int (0 : Int32))) ⟨nar_zv (by decide), d_Law_law_224⟩ ⟨_, _, rfl, rfl, hk⟩
  · try dsimp only at hk
    refine go_iconst (pc := 256) (v := 0) d_Law_law_256 (by decide) ?_
    exact go_ret (pc := 257) (r := some (.int (0 : Int32))) ⟨nar_zv (by decide), d_Law_law_257⟩ ⟨_, _, rfl, rfl, hk⟩
  · try dsimp only at hk
    refine go_iconst (pc := 299) (v := 0) d_Law_law_299 (by decide) ?_
    exact go_ret (pc := 300) (r := some (.int (0 : Int32))) ⟨nar_zv (by decide), d_Law_law_300⟩ ⟨_, _, rfl, rfl, hk⟩
  · try dsimp only at hk
    refine go_iconst (pc := 342) (v := 0) d_Law_law_342 (by decide) ?_
    exact go_ret (pc := 343) (r := some (.int (0 : Int32))) ⟨nar_zv (by decide), d_Law_law_343⟩ ⟨_, _, rfl, rfl, hk⟩
  · try dsimp only at hk
    refine go_iconst (pc := 385) (v := 0) d_Law_law_385 (by decide) ?_
    exact go_ret (pc := 386) (r := some (.int (0 : Int32))) ⟨nar_zv (by decide), d_Law_law_386⟩ ⟨_, _, rfl, rfl, hk⟩
  · try dsimp only at hk
    refine go_iconst (pc := 418) (v := 0) d_Law_law_418 (by decide) ?_
    exact go_ret (pc := 419) (r := some (.int (0 : Int32))) ⟨nar_zv (by decide), d_Law_law_419⟩ ⟨_, _, rfl, rfl, hk⟩
  · try dsimp only at hk
    refine go_iconst (pc := 451) (v := 0) d_Law_law_451 (by decide) ?_
    exact go_ret (pc := 452) (r := some (.int (0 : Int32))) ⟨nar_zv (by decide), d_Law_law_452⟩ ⟨_, _, rfl, rfl, hk⟩
  · try dsimp only at hk
    refine go_iconst (pc := 474) (v := 0) d_Law_law_474 (by decide) ?_
    exact go_ret (pc := 475) (r := some (.int (0 : Int32))) ⟨nar_zv (by decide), d_Law_law_475⟩ ⟨_, _, rfl, rfl, hk⟩
  · try dsimp only at hk
    refine go_iconst (pc := 497) (v := 0) d_Law_law_497 (by decide) ?_
    exact go_ret (pc := 498) (r := some (.int (0 : Int32))) ⟨nar_zv (by decide), d_Law_law_498⟩ ⟨_, _, rfl, rfl, hk⟩
  · try dsimp only at hk
    refine go_iconst (pc := 520) (v := 0) d_Law_law_520 (by decide) ?_
    exact go_ret (pc := 521) (r := some (.int (0 : Int32))) ⟨nar_zv (by decide), d_Law_law_521⟩ ⟨_, _, rfl, rfl, hk⟩
  · try dsimp only at hk
    refine go_iconst (pc := 543) (v := 0) d_Law_law_543 (by decide) ?_
    exact go_ret (pc := 544) (r := some (.int (0 : Int32))) ⟨nar_zv (by decide), d_Law_law_544⟩ ⟨_, _, rfl, rfl, hk⟩
  · try dsimp only at hk
    refine go_iconst (pc := 566) (v := 0) d_Law_law_566 (by decide) ?_
    exact go_ret (pc := 567) (r := some (.int (0 : Int32))) ⟨nar_zv (by decide), d_Law_law_567⟩ ⟨_, _, rfl, rfl, hk⟩
  · try dsimp only at hk
    refine go_iconst (pc := 589) (v := 0) d_Law_law_589 (by decide) ?_
    exact go_ret (pc := 590) (r := some (.int (0 : Int32))) ⟨nar_zv (by decide), d_Law_law_590⟩ ⟨_, _, rfl, rfl, hk⟩
  · try dsimp only at hk
    refine go_iconst (pc := 612) (v := 0) d_Law_law_612 (by decide) ?_
    exact go_ret (pc := 613) (r := some (.int (0 : Int32))) ⟨nar_zv (by decide), d_Law_law_613⟩ ⟨_, _, rfl, rfl, hk⟩
  · try dsimp only at hk
    refine go_iconst (pc := 635) (v := 0) d_Law_law_635 (by decide) ?_
    exact go_ret (pc := 636) (r := some (.int (0 : Int32))) ⟨nar_zv (by decide), d_Law_law_636⟩ ⟨_, _, rfl, rfl, hk⟩
  · try dsimp only at hk
    refine go_iconst (pc := 668) (v := 0) d_Law_law_668 (by decide) ?_
    exact go_ret (pc := 669) (r := some (.int (0 : Int32))) ⟨nar_zv (by decide), d_Law_law_669⟩ ⟨_, _, rfl, rfl, hk⟩
  · try dsimp only at hk
    refine go_iconst (pc := 701) (v := 0) d_Law_law_701 (by decide) ?_
    exact go_ret (pc := 702) (r := some (.int (0 : Int32))) ⟨nar_zv (by decide), d_Law_law_702⟩ ⟨_, _, rfl, rfl, hk⟩
  · try dsimp only at hk
    refine go_iconst (pc := 744) (v := 0) d_Law_law_744 (by decide) ?_
    exact go_ret (pc := 745) (r := some (.int (0 : Int32))) ⟨nar_zv (by decide), d_Law_law_745⟩ ⟨_, _, rfl, rfl, hk⟩
  · try dsimp only at hk
    refine go_iconst (pc := 752) (v := 1) d_Law_law_752 (by decide) ?_
    exact go_ret (pc := 753) (r := some (.int (1 : Int32))) ⟨nar_zv (by decide), d_Law_law_753⟩ ⟨_, _, rfl, rfl, hk⟩
