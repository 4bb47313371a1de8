def wX9_meet (i0 : Int32) (i1 : Int32) (i2 : Int32) (i3 : Int32) (i4 : Int32) (i5 : Int32) (i6 : Int32) (i7 : Int32) (i8 : Int32) (i9 : Int32) (i10 : Int32) (i11 : Int32) (i12 : Int32) (i13 : Int32) (i14 : Int32) (i15 : Int32) (i16 : Int32) (i17 : Int32) (f18 : Nat → Int32) (f19 : Nat → Int32) (f20 : Nat → Int32) (f21 : Nat → Int32) (p0 : Int32) (p1 : Int32) (K : Int32 → Unit → Prop) : Prop := (vp_in p0 80 ∧ (∀ v6 : Int32, v6 = (f18 (Int32.toNatClampNeg p0)) → (vp_in p0 80 ∧ (∀ v13 : Int32, v13 = (f19 (Int32.toNatClampNeg p0)) → (vp_in p1 80 ∧ (∀ v21 : Int32, v21 = (f18 (Int32.toNatClampNeg p1)) → (vp_in p1 80 ∧ (∀ v29 : Int32, v29 = (f19 (Int32.toNatClampNeg p1)) → ((v6 = v21 → ((v6 = v21 → (∀ v84 : Int32, v84 = ((v6 + v13) - v6) → (∀ v94 : Int32, v94 = ((v21 + v29) - v6) → (vp_in v84 20 ∧ (vp_in v6 20 ∧ (vp_in v94 20 ∧ (vp_in v6 20 ∧ (vp_in v84 20 ∧ (vp_in v6 20 ∧ (vp_in v94 20 ∧ (vp_in v6 20 ∧ (∀ v159 : Int32, v159 = ((((f20 (Int32.toNatClampNeg v84)) - (f20 (Int32.toNatClampNeg v6))) * ((f20 (Int32.toNatClampNeg v94)) - (f20 (Int32.toNatClampNeg v6)))) + (((f21 (Int32.toNatClampNeg v84)) - (f21 (Int32.toNatClampNeg v6))) * ((f21 (Int32.toNatClampNeg v94)) - (f21 (Int32.toNatClampNeg v6))))) → (wX9_side i0 i1 i2 i3 i4 i5 i6 i7 i8 i9 i10 i11 i12 i13 i14 i15 i16 i17 f20 f21 v6 v84 v94 (fun r168 _ => ((¬ r168 = 0 → K (0 : Int32) ()) ∧ (r168 = 0 → ((v159 ≤ 0 → K (0 : Int32) ()) ∧ (¬ v159 ≤ 0 → K (1 : Int32) ())))))))))))))))))) ∧ (¬ v6 = v21 → ((¬ v6 = v29 → (∀ v84 : Int32, v84 = ((v6 + v13) - v13) → (∀ v94 : Int32, v94 = ((v21 + v29) - v13) → (vp_in v84 20 ∧ (vp_in v13 20 ∧ (vp_in v94 20 ∧ (vp_in v13 20 ∧ (vp_in v84 20 ∧ (vp_in v13 20 ∧ (vp_in v94 20 ∧ (vp_in v13 20 ∧ (∀ v159 : Int32, v159 = ((((f20 (Int32.toNatClampNeg v84)) - (f20 (Int32.toNatClampNeg v13))) * ((f20 (Int32.toNatClampNeg v94)) - (f20 (Int32.toNatClampNeg v13)))) + (((f21 (Int32.toNatClampNeg v84)) - (f21 (Int32.toNatClampNeg v13))) * ((f21 (Int32.toNatClampNeg v94)) - (f21 (Int32.toNatClampNeg v13))))) → (wX9_side i0 i1 i2 i3 i4 i5 i6 i7 i8 i9 i10 i11 i12 i13 i14 i15 i16 i17 f20 f21 v13 v84 v94 (fun r168 _ => ((¬ r168 = 0 → K (0 : Int32) ()) ∧ (r168 = 0 → ((v159 ≤ 0 → K (0 : Int32) ()) ∧ (¬ v159 ≤ 0 → K (1 : Int32) ())))))))))))))))))) ∧ (v6 = v29 → (∀ v84 : Int32, v84 = ((v6 + v13) - v6) → (∀ v94 : Int32, v94 = ((v21 + v29) - v6) → (vp_in v84 20 ∧ (vp_in v6 20 ∧ (vp_in v94 20 ∧ (vp_in v6 20 ∧ (vp_in v84 20 ∧ (vp_in v6 20 ∧ (vp_in v94 20 ∧ (vp_in v6 20 ∧ (∀ v159 : Int32, v159 = ((((f20 (Int32.toNatClampNeg v84)) - (f20 (Int32.toNatClampNeg v6))) * ((f20 (Int32.toNatClampNeg v94)) - (f20 (Int32.toNatClampNeg v6)))) + (((f21 (Int32.toNatClampNeg v84)) - (f21 (Int32.toNatClampNeg v6))) * ((f21 (Int32.toNatClampNeg v94)) - (f21 (Int32.toNatClampNeg v6))))) → (wX9_side i0 i1 i2 i3 i4 i5 i6 i7 i8 i9 i10 i11 i12 i13 i14 i15 i16 i17 f20 f21 v6 v84 v94 (fun r168 _ => ((¬ r168 = 0 → K (0 : Int32) ()) ∧ (r168 = 0 → ((v159 ≤ 0 → K (0 : Int32) ()) ∧ (¬ v159 ≤ 0 → K (1 : Int32) ())))))))))))))))))))))) ∧ (¬ v6 = v21 → ((v6 = v29 → ((v6 = v21 → (∀ v84 : Int32, v84 = ((v6 + v13) - v6) → (∀ v94 : Int32, v94 = ((v21 + v29) - v6) → (vp_in v84 20 ∧ (vp_in v6 20 ∧ (vp_in v94 20 ∧ (vp_in v6 20 ∧ (vp_in v84 20 ∧ (vp_in v6 20 ∧ (vp_in v94 20 ∧ (vp_in v6 20 ∧ (∀ v159 : Int32, v159 = ((((f20 (Int32.toNatClampNeg v84)) - (f20 (Int32.toNatClampNeg v6))) * ((f20 (Int32.toNatClampNeg v94)) - (f20 (Int32.toNatClampNeg v6)))) + (((f21 (Int32.toNatClampNeg v84)) - (f21 (Int32.toNatClampNeg v6))) * ((f21 (Int32.toNatClampNeg v94)) - (f21 (Int32.toNatClampNeg v6))))) → (wX9_side i0 i1 i2 i3 i4 i5 i6 i7 i8 i9 i10 i11 i12 i13 i14 i15 i16 i17 f20 f21 v6 v84 v94 (fun r168 _ => ((¬ r168 = 0 → K (0 : Int32) ()) ∧ (r168 = 0 → ((v159 ≤ 0 → K (0 : Int32) ()) ∧ (¬ v159 ≤ 0 → K (1 : Int32) ())))))))))))))))))) ∧ (¬ v6 = v21 → ((¬ v6 = v29 → (∀ v84 : Int32, v84 = ((v6 + v13) - v13) → (∀ v94 : Int32, v94 = ((v21 + v29) - v13) → (vp_in v84 20 ∧ (vp_in v13 20 ∧ (vp_in v94 20 ∧ (vp_in v13 20 ∧ (vp_in v84 20 ∧ (vp_in v13 20 ∧ (vp_in v94 20 ∧ (vp_in v13 20 ∧ (∀ v159 : Int32, v159 = ((((f20 (Int32.toNatClampNeg v84)) - (f20 (Int32.toNatClampNeg v13))) * ((f20 (Int32.toNatClampNeg v94)) - (f20 (Int32.toNatClampNeg v13)))) + (((f21 (Int32.toNatClampNeg v84)) - (f21 (Int32.toNatClampNeg v13))) * ((f21 (Int32.toNatClampNeg v94)) - (f21 (Int32.toNatClampNeg v13))))) → (wX9_side i0 i1 i2 i3 i4 i5 i6 i7 i8 i9 i10 i11 i12 i13 i14 i15 i16 i17 f20 f21 v13 v84 v94 (fun r168 _ => ((¬ r168 = 0 → K (0 : Int32) ()) ∧ (r168 = 0 → ((v159 ≤ 0 → K (0 : Int32) ()) ∧ (¬ v159 ≤ 0 → K (1 : Int32) ())))))))))))))))))) ∧ (v6 = v29 → (∀ v84 : Int32, v84 = ((v6 + v13) - v6) → (∀ v94 : Int32, v94 = ((v21 + v29) - v6) → (vp_in v84 20 ∧ (vp_in v6 20 ∧ (vp_in v94 20 ∧ (vp_in v6 20 ∧ (vp_in v84 20 ∧ (vp_in v6 20 ∧ (vp_in v94 20 ∧ (vp_in v6 20 ∧ (∀ v159 : Int32, v159 = ((((f20 (Int32.toNatClampNeg v84)) - (f20 (Int32.toNatClampNeg v6))) * ((f20 (Int32.toNatClampNeg v94)) - (f20 (Int32.toNatClampNeg v6)))) + (((f21 (Int32.toNatClampNeg v84)) - (f21 (Int32.toNatClampNeg v6))) * ((f21 (Int32.toNatClampNeg v94)) - (f21 (Int32.toNatClampNeg v6))))) → (wX9_side i0 i1 i2 i3 i4 i5 i6 i7 i8 i9 i10 i11 i12 i13 i14 i15 i16 i17 f20 f21 v6 v84 v94 (fun r168 _ => ((¬ r168 = 0 → K (0 : Int32) ()) ∧ (r168 = 0 → ((v159 ≤ 0 → K (0 : Int32) ()) ∧ (¬ v159 ≤ 0 → K (1 : Int32) ())))))))))))))))))))))) ∧ (¬ v6 = v29 → ((v13 = v21 → ((v6 = v21 → (∀ v84 : Int32, v84 = ((v6 + v13) - v6) → (∀ v94 : Int32, v94 = ((v21 + v29) - v6) → (vp_in v84 20 ∧ (vp_in v6 20 ∧ (vp_in v94 20 ∧ (vp_in v6 20 ∧ (vp_in v84 20 ∧ (vp_in v6 20 ∧ (vp_in v94 20 ∧ (vp_in v6 20 ∧ (∀ v159 : Int32, v159 = ((((f20 (Int32.toNatClampNeg v84)) - (f20 (Int32.toNatClampNeg v6))) * ((f20 (Int32.toNatClampNeg v94)) - (f20 (Int32.toNatClampNeg v6)))) + (((f21 (Int32.toNatClampNeg v84)) - (f21 (Int32.toNatClampNeg v6))) * ((f21 (Int32.toNatClampNeg v94)) - (f21 (Int32.toNatClampNeg v6))))) → (wX9_side i0 i1 i2 i3 i4 i5 i6 i7 i8 i9 i10 i11 i12 i13 i14 i15 i16 i17 f20 f21 v6 v84 v94 (fun r168 _ => ((¬ r168 = 0 → K (0 : Int32) ()) ∧ (r168 = 0 → ((v159 ≤ 0 → K (0 : Int32) ()) ∧ (¬ v159 ≤ 0 → K (1 : Int32) ())))))))))))))))))) ∧ (¬ v6 = v21 → ((¬ v6 = v29 → (∀ v84 : Int32, v84 = ((v6 + v13) - v13) → (∀ v94 : Int32, v94 = ((v21 + v29) - v13) → (vp_in v84 20 ∧ (vp_in v13 20 ∧ (vp_in v94 20 ∧ (vp_in v13 20 ∧ (vp_in v84 20 ∧ (vp_in v13 20 ∧ (vp_in v94 20 ∧ (vp_in v13 20 ∧ (∀ v159 : Int32, v159 = ((((f20 (Int32.toNatClampNeg v84)) - (f20 (Int32.toNatClampNeg v13))) * ((f20 (Int32.toNatClampNeg v94)) - (f20 (Int32.toNatClampNeg v13)))) + (((f21 (Int32.toNatClampNeg v84)) - (f21 (Int32.toNatClampNeg v13))) * ((f21 (Int32.toNatClampNeg v94)) - (f21 (Int32.toNatClampNeg v13))))) → (wX9_side i0 i1 i2 i3 i4 i5 i6 i7 i8 i9 i10 i11 i12 i13 i14 i15 i16 i17 f20 f21 v13 v84 v94 (fun r168 _ => ((¬ r168 = 0 → K (0 : Int32) ()) ∧ (r168 = 0 → ((v159 ≤ 0 → K (0 : Int32) ()) ∧ (¬ v159 ≤ 0 → K (1 : Int32) ())))))))))))))))))) ∧ (v6 = v29 → (∀ v84 : Int32, v84 = ((v6 + v13) - v6) → (∀ v94 : Int32, v94 = ((v21 + v29) - v6) → (vp_in v84 20 ∧ (vp_in v6 20 ∧ (vp_in v94 20 ∧ (vp_in v6 20 ∧ (vp_in v84 20 ∧ (vp_in v6 20 ∧ (vp_in v94 20 ∧ (vp_in v6 20 ∧ (∀ v159 : Int32, v159 = ((((f20 (Int32.toNatClampNeg v84)) - (f20 (Int32.toNatClampNeg v6))) * ((f20 (Int32.toNatClampNeg v94)) - (f20 (Int32.toNatClampNeg v6)))) + (((f21 (Int32.toNatClampNeg v84)) - (f21 (Int32.toNatClampNeg v6))) * ((f21 (Int32.toNatClampNeg v94)) - (f21 (Int32.toNatClampNeg v6))))) → (wX9_side i0 i1 i2 i3 i4 i5 i6 i7 i8 i9 i10 i11 i12 i13 i14 i15 i16 i17 f20 f21 v6 v84 v94 (fun r168 _ => ((¬ r168 = 0 → K (0 : Int32) ()) ∧ (r168 = 0 → ((v159 ≤ 0 → K (0 : Int32) ()) ∧ (¬ v159 ≤ 0 → K (1 : Int32) ())))))))))))))))))))))) ∧ (¬ v13 = v21 → ((¬ v13 = v29 → (wX9_isWithin i0 i1 i2 i3 i4 i5 i6 i7 i8 i9 i10 i11 i12 i13 i14 i15 i16 i17 f20 f21 v6 v13 v21 (fun r191 _ => ((¬ r191 = 0 → K (1 : Int32) ()) ∧ (r191 = 0 → (wX9_isWithin i0 i1 i2 i3 i4 i5 i6 i7 i8 i9 i10 i11 i12 i13 i14 i15 i16 i17 f20 f21 v6 v13 v29 (fun r203 _ => ((¬ r203 = 0 → K (1 : Int32) ()) ∧ (r203 = 0 → (wX9_isWithin i0 i1 i2 i3 i4 i5 i6 i7 i8 i9 i10 i11 i12 i13 i14 i15 i16 i17 f20 f21 v21 v29 v6 (fun r215 _ => ((¬ r215 = 0 → K (1 : Int32) ()) ∧ (r215 = 0 → (wX9_isWithin i0 i1 i2 i3 i4 i5 i6 i7 i8 i9 i10 i11 i12 i13 i14 i15 i16 i17 f20 f21 v21 v29 v13 (fun r228 _ => ((r228 = 0 → (wX9_side i0 i1 i2 i3 i4 i5 i6 i7 i8 i9 i10 i11 i12 i13 i14 i15 i16 i17 f20 f21 v6 v13 v21 (fun r242 _ => (wX9_side i0 i1 i2 i3 i4 i5 i6 i7 i8 i9 i10 i11 i12 i13 i14 i15 i16 i17 f20 f21 v6 v13 v29 (fun r251 _ => ((0 ≤ (r242 * r251) → K (0 : Int32) ()) ∧ (¬ 0 ≤ (r242 * r251) → (wX9_side i0 i1 i2 i3 i4 i5 i6 i7 i8 i9 i10 i11 i12 i13 i14 i15 i16 i17 f20 f21 v21 v29 v6 (fun r264 _ => (wX9_side i0 i1 i2 i3 i4 i5 i6 i7 i8 i9 i10 i11 i12 i13 i14 i15 i16 i17 f20 f21 v21 v29 v13 (fun r274 _ => ((0 ≤ (r264 * r274) → K (0 : Int32) ()) ∧ (¬ 0 ≤ (r264 * r274) → K (1 : Int32) ()))))))))))))) ∧ (¬ r228 = 0 → K (1 : Int32) ()))))))))))))))))) ∧ (v13 = v29 → ((v6 = v21 → (∀ v84 : Int32, v84 = ((v6 + v13) - v6) → (∀ v94 : Int32, v94 = ((v21 + v29) - v6) → (vp_in v84 20 ∧ (vp_in v6 20 ∧ (vp_in v94 20 ∧ (vp_in v6 20 ∧ (vp_in v84 20 ∧ (vp_in v6 20 ∧ (vp_in v94 20 ∧ (vp_in v6 20 ∧ (∀ v159 : Int32, v159 = ((((f20 (Int32.toNatClampNeg v84)) - (f20 (Int32.toNatClampNeg v6))) * ((f20 (Int32.toNatClampNeg v94)) - (f20 (Int32.toNatClampNeg v6)))) + (((f21 (Int32.toNatClampNeg v84)) - (f21 (Int32.toNatClampNeg v6))) * ((f21 (Int32.toNatClampNeg v94)) - (f21 (Int32.toNatClampNeg v6))))) → (wX9_side i0 i1 i2 i3 i4 i5 i6 i7 i8 i9 i10 i11 i12 i13 i14 i15 i16 i17 f20 f21 v6 v84 v94 (fun r168 _ => ((¬ r168 = 0 → K (0 : Int32) ()) ∧ (r168 = 0 → ((v159 ≤ 0 → K (0 : Int32) ()) ∧ (¬ v159 ≤ 0 → K (1 : Int32) ())))))))))))))))))) ∧ (¬ v6 = v21 → ((¬ v6 = v29 → (∀ v84 : Int32, v84 = ((v6 + v13) - v13) → (∀ v94 : Int32, v94 = ((v21 + v29) - v13) → (vp_in v84 20 ∧ (vp_in v13 20 ∧ (vp_in v94 20 ∧ (vp_in v13 20 ∧ (vp_in v84 20 ∧ (vp_in v13 20 ∧ (vp_in v94 20 ∧ (vp_in v13 20 ∧ (∀ v159 : Int32, v159 = ((((f20 (Int32.toNatClampNeg v84)) - (f20 (Int32.toNatClampNeg v13))) * ((f20 (Int32.toNatClampNeg v94)) - (f20 (Int32.toNatClampNeg v13)))) + (((f21 (Int32.toNatClampNeg v84)) - (f21 (Int32.toNatClampNeg v13))) * ((f21 (Int32.toNatClampNeg v94)) - (f21 (Int32.toNatClampNeg v13))))) → (wX9_side i0 i1 i2 i3 i4 i5 i6 i7 i8 i9 i10 i11 i12 i13 i14 i15 i16 i17 f20 f21 v13 v84 v94 (fun r168 _ => ((¬ r168 = 0 → K (0 : Int32) ()) ∧ (r168 = 0 → ((v159 ≤ 0 → K (0 : Int32) ()) ∧ (¬ v159 ≤ 0 → K (1 : Int32) ())))))))))))))))))) ∧ (v6 = v29 → (∀ v84 : Int32, v84 = ((v6 + v13) - v6) → (∀ v94 : Int32, v94 = ((v21 + v29) - v6) → (vp_in v84 20 ∧ (vp_in v6 20 ∧ (vp_in v94 20 ∧ (vp_in v6 20 ∧ (vp_in v84 20 ∧ (vp_in v6 20 ∧ (vp_in v94 20 ∧ (vp_in v6 20 ∧ (∀ v159 : Int32, v159 = ((((f20 (Int32.toNatClampNeg v84)) - (f20 (Int32.toNatClampNeg v6))) * ((f20 (Int32.toNatClampNeg v94)) - (f20 (Int32.toNatClampNeg v6)))) + (((f21 (Int32.toNatClampNeg v84)) - (f21 (Int32.toNatClampNeg v6))) * ((f21 (Int32.toNatClampNeg v94)) - (f21 (Int32.toNatClampNeg v6))))) → (wX9_side i0 i1 i2 i3 i4 i5 i6 i7 i8 i9 i10 i11 i12 i13 i14 i15 i16 i17 f20 f21 v6 v84 v94 (fun r168 _ => ((¬ r168 = 0 → K (0 : Int32) ()) ∧ (r168 = 0 → ((v159 ≤ 0 → K (0 : Int32) ()) ∧ (¬ v159 ≤ 0 → K (1 : Int32) ())))))))))))))))))))))))))))))))))))))
set_option maxHeartbeats 4000000 in
set_option maxRecDepth 100000 in
theorem zX9_meet (l : Launch) (G : va_G) (cI cJ cZ : ClassId) (h0 h1 h2 h3 h4 k0 k1 k2 k3 k4 k5 k6 k7 k8 k9 k10 k11 k12 k13 k14 k15 k16 k17 k18 k19 k20 k21 k22 k23 k24 k25 k26 k27 k28 k29 k30 k31 k32 k33 k34 k35 sz : Nat) (i0 : Int32) (i1 : Int32) (i2 : Int32) (i3 : Int32) (i4 : Int32) (i5 : Int32) (i6 : Int32) (i7 : Int32) (i8 : Int32) (i9 : Int32) (i10 : Int32) (i11 : Int32) (i12 : Int32) (i13 : Int32) (i14 : Int32) (i15 : Int32) (i16 : Int32) (i17 : Int32) (f18 : Nat → Int32) (f19 : Nat → Int32) (f20 : Nat → Int32) (f21 : Nat → Int32) (p0 : Int32) (p1 : Int32) (K : Int32 → Unit → Prop) (hwp : wX9_meet i0 i1 i2 i3 i4 i5 i6 i7 i8 i9 i10 i11 i12 i13 i14 i15 i16 i17 f18 f19 f20 f21 p0 p1 K) : Met l yX9_meet (xw yX9_meet cX9_meet 11 (some .boolean)) ({ frames := 2, cells := 0, slots := 0, locals := 49 }) (xPc G cI cJ cZ [.ref h0, .int p0, .int p1] [(h0, .inr (9, [.int i0, .int i1, .ref h1, .ref h2, .ref k0, .ref k1, .ref k2, .int i2, .ref k3, .int i3, .ref k4, .ref k5, .ref k6, .int i4, .ref k7, .ref k8, .int i5, .ref k9, .ref k10, .ref k11, .int i6, .ref k12, .int i7, .ref k13, .ref k14, .int i8, .int i9, .int i10, .ref k15, .int i11, .ref k16, .ref k17, .ref k18, .ref k19, .ref k20, .ref k21, .ref k22, .ref h3, .ref h4, .ref k23, .ref k24, .ref k25, .ref k26, .ref k27, .ref k28, .int i12, .int i13, .int i14, .int i15, .int i16, .ref k29, .ref k30, .ref k31, .ref k32, .ref k33, .ref k34, .int i17, .ref k35])), (h1, aI cI 80 f18), (h2, aI cI 80 f19), (h3, aI cI 20 f20), (h4, aI cI 20 f21)] sz) (va_Qi (fun (r : Int32) (u : Unit) => K r u) (fun (u : Unit) t => xB G (va_A [(h0, .inr (9, [.int i0, .int i1, .ref h1, .ref h2, .ref k0, .ref k1, .ref k2, .int i2, .ref k3, .int i3, .ref k4, .ref k5, .ref k6, .int i4, .ref k7, .ref k8, .int i5, .ref k9, .ref k10, .ref k11, .int i6, .ref k12, .int i7, .ref k13, .ref k14, .int i8, .int i9, .int i10, .ref k15, .int i11, .ref k16, .ref k17, .ref k18, .ref k19, .ref k20, .ref k21, .ref k22, .ref h3, .ref h4, .ref k23, .ref k24, .ref k25, .ref k26, .ref k27, .ref k28, .int i12, .int i13, .int i14, .int i15, .int i16, .ref k29, .ref k30, .ref k31, .ref k32, .ref k33, .ref k34, .int i17, .ref k35])), (h1, aI cI 80 f18), (h2, aI cI 80 f19), (h3, aI cI 20 f20), (h4, aI cI 20 f21)] sz) [(h0, .inr (9, [.int i0, .int i1, .ref h1, .ref h2, .ref k0, .ref k1, .ref k2, .int i2, .ref k3, .int i3, .ref k4, .ref k5, .ref k6, .int i4, .ref k7, .ref k8, .int i5, .ref k9, .ref k10, .ref k11, .int i6, .ref k12, .int i7, .ref k13, .ref k14, .int i8, .int i9, .int i10, .ref k15, .int i11, .ref k16, .ref k17, .ref k18, .ref k19, .ref k20, .ref k21, .ref k22, .ref h3, .ref h4, .ref k23, .ref k24, .ref k25, .ref k26, .ref k27, .ref k28, .int i12, .int i13, .int i14, .int i15, .int i16, .ref k29, .ref k30, .ref k31, .ref k32, .ref k33, .ref k34, .int i17, .ref k35])), (h1, aI cI 80 f18), (h2, aI cI 80 f19), (h3, aI cI 20 f20), (h4, aI cI 20 f21)] t) (va_A [(h0, .inr (9, [.int i0, .int i1, .ref h1, .ref h2, .ref k0, .ref k1, .ref k2, .int i2, .ref k3, .int i3, .ref k4, .ref k5, .ref k6, .int i4, .ref k7, .ref k8, .int i5, .ref k9, .ref k10, .ref k11, .int i6, .ref k12, .int i7, .ref k13, .ref k14, .int i8, .int i9, .int i10, .ref k15, .int i11, .ref k16, .ref k17, .ref k18, .ref k19, .ref k20, .ref k21, .ref k22, .ref h3, .ref h4, .ref k23, .ref k24, .ref k25, .ref k26, .ref k27, .ref k28, .int i12, .int i13, .int i14, .int i15, .int i16, .ref k29, .ref k30, .ref k31, .ref k32, .ref k33, .ref k34, .int i17, .ref k35])), (h1, aI cI 80 f18), (h2, aI cI 80 f19), (h3, aI cI 20 f20), (h4, aI cI 20 f21)] sz)) 0 0 (va_A [(h0, .inr (9, [.int i0, .int i1, .ref h1, .ref h2, .ref k0, .ref k1, .ref k2, .int i2, .ref k3, .int i3, .ref k4, .ref k5, .ref k6, .int i4, .ref k7, .ref k8, .int i5, .ref k9, .ref k10, .ref k11, .int i6, .ref k12, .int i7, .ref k13, .ref k14, .int i8, .int i9, .int i10, .ref k15, .int i11, .ref k16, .ref k17, .ref k18, .ref k19, .ref k20, .ref k21, .ref k22, .ref h3, .ref h4, .ref k23, .ref k24, .ref k25, .ref k26, .ref k27, .ref k28, .int i12, .int i13, .int i14, .int i15, .int i16, .ref k29, .ref k30, .ref k31, .ref k32, .ref k33, .ref k34, .int i17, .ref k35])), (h1, aI cI 80 f18), (h2, aI cI 80 f19), (h3, aI cI 20 f20), (h4, aI cI 20 f21)] sz) := by
  refine Met.ofW (cc := cX9_meet) (maxL := 11) (ret := (some .boolean)) (by decide) rfl ?_
  intro p e s m args below meth c s₁ B hml hv
  obtain ⟨rfl, hsz, hP, hK, hD0, hN⟩ := hv
  have hx := B.exec
  have hb := B.bytes
  have hr := B.returns
  have hts : ∀ w ∈ xW, w.before _ s = true := fun w h => atoms_spec (ws := xw yX9_meet cX9_meet 11 (some .boolean)) B.pre w (List.mem_cons_of_mem _ h)
  have hown : s.vm.findClass RX9 = some m.cls := findClass_of_methodNamed B.named
  have hlocks := B.notSynchronized
  subst hsz
  have hD := hD0.self (sz := s.heap.size)
  clear hD0
  generalize hAe : va_A [(h0, .inr (9, [.int i0, .int i1, .ref h1, .ref h2, .ref k0, .ref k1, .ref k2, .int i2, .ref k3, .int i3, .ref k4, .ref k5, .ref k6, .int i4, .ref k7, .ref k8, .int i5, .ref k9, .ref k10, .ref k11, .int i6, .ref k12, .int i7, .ref k13, .ref k14, .int i8, .int i9, .int i10, .ref k15, .int i11, .ref k16, .ref k17, .ref k18, .ref k19, .ref k20, .ref k21, .ref k22, .ref h3, .ref h4, .ref k23, .ref k24, .ref k25, .ref k26, .ref k27, .ref k28, .int i12, .int i13, .int i14, .int i15, .int i16, .ref k29, .ref k30, .ref k31, .ref k32, .ref k33, .ref k34, .int i17, .ref k35])), (h1, aI cI 80 f18), (h2, aI cI 80 f19), (h3, aI cI 20 f20), (h4, aI cI 20 f21)] s.heap.size = A at hD ⊢
  have hA : ∀ q : Nat, s.heap.size ≤ q → A q := fun q h => by rw [← hAe]; exact Or.inr h
  clear hAe
  have hS : va_S A s.heap s.heap [] := va_S.rf
  replace hP : va_P G vwCl [(h0, .inr (9, [.int i0, .int i1, .ref h1, .ref h2, .ref k0, .ref k1, .ref k2, .int i2, .ref k3, .int i3, .ref k4, .ref k5, .ref k6, .int i4, .ref k7, .ref k8, .int i5, .ref k9, .ref k10, .ref k11, .int i6, .ref k12, .int i7, .ref k13, .ref k14, .int i8, .int i9, .int i10, .ref k15, .int i11, .ref k16, .ref k17, .ref k18, .ref k19, .ref k20, .ref k21, .ref k22, .ref h3, .ref h4, .ref k23, .ref k24, .ref k25, .ref k26, .ref k27, .ref k28, .int i12, .int i13, .int i14, .int i15, .int i16, .ref k29, .ref k30, .ref k31, .ref k32, .ref k33, .ref k34, .int i17, .ref k35])), (h1, aI cI 80 f18), (h2, aI cI 80 f19), (h3, aI cI 20 f20), (h4, aI cI 20 f21)] s.heap := hP
  have hl := lv_entry ([.ref h0, .int p0, .int p1]) (n := 11) (Nat.le_of_ble_eq_true rfl)
  rw [lg_entry_eq]
  generalize (lg_sl ([.ref h0, .int p0, .int p1]) ++ List.replicate (11 - (lg_sl ([.ref h0, .int p0, .int p1])).length) Slot.unset).toArray = ls at hl ⊢
  replace hl : lv_has ls 11 [(0, .ref h0), (1, .int p0), (2, .int p1)] := hl
  generalize hQQ : MQ below _ _ s 0 0 _ = QQ
  skip
  unfold wX9_meet at hwp
  refine lv_aload_n hx hb dX9_meet_0 rfl (lv_at hl 0 rfl) ?_
  refine va_get (D := G) (ci := 9) (v := .ref h1) (C := RX9) (T := TX9) (N := 58) hx hb hts xinX9 hown hK hP 0 rfl rfl 2 (by decide) (hts _ wo_529) (fun _ h9 => h9) rfl dX9_meet_1 ?_
  refine lv_iload_n hx hb dX9_meet_4 rfl (lv_at hl 1 rfl) ?_
  obtain ⟨hi, hwp⟩ := hwp
  refine va_iald hx hb hK hP 1 0 rfl rfl hi dX9_meet_5 ?_
  refine lv_topi (fun v6 ev6 => ?_)
  replace hwp := hwp v6 ev6
  clear ev6
  refine lv_istore_n (lv' := [(3, .int v6), (0, .ref h0), (1, .int p0), (2, .int p1)]) hx hb dX9_meet_6 rfl hl (by decide) rfl (fun ls hl => ?_)
  refine lv_aload_n hx hb dX9_meet_7 rfl (lv_at hl 1 rfl) ?_
  refine va_get (D := G) (ci := 9) (v := .ref h2) (C := RX9) (T := TX9) (N := 58) hx hb hts xinX9 hown hK hP 0 rfl rfl 3 (by decide) (hts _ wo_530) (fun _ h9 => h9) rfl dX9_meet_8 ?_
  refine lv_iload_n hx hb dX9_meet_11 rfl (lv_at hl 2 rfl) ?_
  obtain ⟨hi, hwp⟩ := hwp
  refine va_iald hx hb hK hP 2 0 rfl rfl hi dX9_meet_12 ?_
  refine lv_topi (fun v13 ev13 => ?_)
  replace hwp := hwp v13 ev13
  clear ev13
  refine lv_istore (lv' := [(4, .int v13), (3, .int v6), (0, .ref h0), (1, .int p0), (2, .int p1)]) hx hb dX9_meet_13 hl (by decide) rfl (fun ls hl => ?_)
  refine lv_aload_n hx hb dX9_meet_15 rfl (lv_at hl 2 rfl) ?_
  refine va_get (D := G) (ci := 9) (v := .ref h1) (C := RX9) (T := TX9) (N := 58) hx hb hts xinX9 hown hK hP 0 rfl rfl 2 (by decide) (hts _ wo_529) (fun _ h9 => h9) rfl dX9_meet_16 ?_
  refine lv_iload_n hx hb dX9_meet_19 rfl (lv_at hl 4 rfl) ?_
  obtain ⟨hi, hwp⟩ := hwp
  refine va_iald hx hb hK hP 1 0 rfl rfl hi dX9_meet_20 ?_
  refine lv_topi (fun v21 ev21 => ?_)
  replace hwp := hwp v21 ev21
  clear ev21
  refine lv_istore (lv' := [(5, .int v21), (4, .int v13), (3, .int v6), (0, .ref h0), (1, .int p0), (2, .int p1)]) hx hb dX9_meet_21 hl (by decide) rfl (fun ls hl => ?_)
  refine lv_aload_n hx hb dX9_meet_23 rfl (lv_at hl 3 rfl) ?_
  refine va_get (D := G) (ci := 9) (v := .ref h2) (C := RX9) (T := TX9) (N := 58) hx hb hts xinX9 hown hK hP 0 rfl rfl 3 (by decide) (hts _ wo_530) (fun _ h9 => h9) rfl dX9_meet_24 ?_
  refine lv_iload_n hx hb dX9_meet_27 rfl (lv_at hl 5 rfl) ?_
  obtain ⟨hi, hwp⟩ := hwp
  refine va_iald hx hb hK hP 2 0 rfl rfl hi dX9_meet_28 ?_
  refine lv_topi (fun v29 ev29 => ?_)
  replace hwp := hwp v29 ev29
  clear ev29
  refine lv_istore (lv' := [(6, .int v29), (5, .int v21), (4, .int v13), (3, .int v6), (0, .ref h0), (1, .int p0), (2, .int p1)]) hx hb dX9_meet_29 hl (by decide) rfl (fun ls hl => ?_)
  refine lv_iload_n hx hb dX9_meet_31 rfl (lv_at hl 3 rfl) ?_
  refine lv_iload hx hb dX9_meet_32 (lv_at hl 1 rfl) ?_
  refine lv_icmp_eq (tgt := 57) hx hb dX9_meet_34 (by decide) (fun c34 => ?_) (fun c34 => ?_)
  · replace hwp := hwp.1 c34
    refine lv_iload_n hx hb dX9_meet_57 rfl (lv_at hl 3 rfl) ?_
    refine lv_iload hx hb dX9_meet_58 (lv_at hl 1 rfl) ?_
    refine lv_icmp_eq (tgt := 69) hx hb dX9_meet_60 (by decide) (fun c60 => ?_) (fun c60 => ?_)
    · replace hwp := hwp.1 c60
      refine lv_iload_n hx hb dX9_meet_69 rfl (lv_at hl 3 rfl) ?_
      refine lv_goto (tgt := 75) hx hb dX9_meet_70 (by decide) ?_
      refine lv_istore (lv' := [(7, .int v6), (6, .int v29), (5, .int v21), (4, .int v13), (3, .int v6), (0, .ref h0), (1, .int p0), (2, .int p1)]) hx hb dX9_meet_75 hl (by decide) rfl (fun ls hl => ?_)
      refine lv_iload_n hx hb dX9_meet_77 rfl (lv_at hl 4 rfl) ?_
      refine lv_iload hx hb dX9_meet_78 (lv_at hl 3 rfl) ?_
      refine lv_iadd hx hb dX9_meet_80 ?_
      refine lv_iload hx hb dX9_meet_81 (lv_at hl 0 rfl) ?_
      refine lv_isub hx hb dX9_meet_83 ?_
      refine lv_topi (fun v84 ev84 => ?_)
      replace hwp := hwp v84 ev84
      clear ev84
      refine lv_istore (lv' := [(8, .int v84), (7, .int v6), (6, .int v29), (5, .int v21), (4, .int v13), (3, .int v6), (0, .ref h0), (1, .int p0), (2, .int p1)]) hx hb dX9_meet_84 hl (by decide) rfl (fun ls hl => ?_)
      refine lv_iload hx hb dX9_meet_86 (lv_at hl 3 rfl) ?_
      refine lv_iload hx hb dX9_meet_88 (lv_at hl 2 rfl) ?_
      refine lv_iadd hx hb dX9_meet_90 ?_
      refine lv_iload hx hb dX9_meet_91 (lv_at hl 1 rfl) ?_
      refine lv_isub hx hb dX9_meet_93 ?_
      refine lv_topi (fun v94 ev94 => ?_)
      replace hwp := hwp v94 ev94
      clear ev94
      refine lv_istore (lv' := [(9, .int v94), (8, .int v84), (7, .int v6), (6, .int v29), (5, .int v21), (4, .int v13), (3, .int v6), (0, .ref h0), (1, .int p0), (2, .int p1)]) hx hb dX9_meet_94 hl (by decide) rfl (fun ls hl => ?_)
      refine lv_aload_n hx hb dX9_meet_96 rfl (lv_at hl 7 rfl) ?_
      refine va_get (D := G) (ci := 9) (v := .ref h3) (C := RX9) (T := TX9) (N := 58) hx hb hts xinX9 hown hK hP 0 rfl rfl 37 (by decide) (hts _ wo_584) (fun _ h9 => h9) rfl dX9_meet_97 ?_
      refine lv_iload hx hb dX9_meet_100 (lv_at hl 1 rfl) ?_
      obtain ⟨hi, hwp⟩ := hwp
      refine va_iald hx hb hK hP 3 0 rfl rfl hi dX9_meet_102 ?_
      refine lv_aload_n hx hb dX9_meet_103 rfl (lv_at hl 7 rfl) ?_
      refine va_get (D := G) (ci := 9) (v := .ref h3) (C := RX9) (T := TX9) (N := 58) hx hb hts xinX9 hown hK hP 0 rfl rfl 37 (by decide) (hts _ wo_584) (fun _ h9 => h9) rfl dX9_meet_104 ?_
      refine lv_iload hx hb dX9_meet_107 (lv_at hl 2 rfl) ?_
      obtain ⟨hi, hwp⟩ := hwp
      refine va_iald hx hb hK hP 3 0 rfl rfl hi dX9_meet_109 ?_
      refine lv_isub hx hb dX9_meet_110 ?_
      refine lv_aload_n hx hb dX9_meet_111 rfl (lv_at hl 7 rfl) ?_
      refine va_get (D := G) (ci := 9) (v := .ref h3) (C := RX9) (T := TX9) (N := 58) hx hb hts xinX9 hown hK hP 0 rfl rfl 37 (by decide) (hts _ wo_584) (fun _ h9 => h9) rfl dX9_meet_112 ?_
      refine lv_iload hx hb dX9_meet_115 (lv_at hl 0 rfl) ?_
      obtain ⟨hi, hwp⟩ := hwp
      refine va_iald hx hb hK hP 3 0 rfl rfl hi dX9_meet_117 ?_
      refine lv_aload_n hx hb dX9_meet_118 rfl (lv_at hl 7 rfl) ?_
      refine va_get (D := G) (ci := 9) (v := .ref h3) (C := RX9) (T := TX9) (N := 58) hx hb hts xinX9 hown hK hP 0 rfl rfl 37 (by decide) (hts _ wo_584) (fun _ h9 => h9) rfl dX9_meet_119 ?_
      refine lv_iload hx hb dX9_meet_122 (lv_at hl 2 rfl) ?_
      obtain ⟨hi, hwp⟩ := hwp
      refine va_iald hx hb hK hP 3 0 rfl rfl hi dX9_meet_124 ?_
      refine lv_isub hx hb dX9_meet_125 ?_
      refine lv_imul hx hb dX9_meet_126 ?_
      refine lv_aload_n hx hb dX9_meet_127 rfl (lv_at hl 7 rfl) ?_
      refine va_get (D := G) (ci := 9) (v := .ref h4) (C := RX9) (T := TX9) (N := 58) hx hb hts xinX9 hown hK hP 0 rfl rfl 38 (by decide) (hts _ wo_585) (fun _ h9 => h9) rfl dX9_meet_128 ?_
      refine lv_iload hx hb dX9_meet_131 (lv_at hl 1 rfl) ?_
      obtain ⟨hi, hwp⟩ := hwp
      refine va_iald hx hb hK hP 4 0 rfl rfl hi dX9_meet_133 ?_
      refine lv_aload_n hx hb dX9_meet_134 rfl (lv_at hl 7 rfl) ?_
      refine va_get (D := G) (ci := 9) (v := .ref h4) (C := RX9) (T := TX9) (N := 58) hx hb hts xinX9 hown hK hP 0 rfl rfl 38 (by decide) (hts _ wo_585) (fun _ h9 => h9) rfl dX9_meet_135 ?_
      refine lv_iload hx hb dX9_meet_138 (lv_at hl 2 rfl) ?_
      obtain ⟨hi, hwp⟩ := hwp
      refine va_iald hx hb hK hP 4 0 rfl rfl hi dX9_meet_140 ?_
      refine lv_isub hx hb dX9_meet_141 ?_
      refine lv_aload_n hx hb dX9_meet_142 rfl (lv_at hl 7 rfl) ?_
      refine va_get (D := G) (ci := 9) (v := .ref h4) (C := RX9) (T := TX9) (N := 58) hx hb hts xinX9 hown hK hP 0 rfl rfl 38 (by decide) (hts _ wo_585) (fun _ h9 => h9) rfl dX9_meet_143 ?_
      refine lv_iload hx hb dX9_meet_146 (lv_at hl 0 rfl) ?_
      obtain ⟨hi, hwp⟩ := hwp
      refine va_iald hx hb hK hP 4 0 rfl rfl hi dX9_meet_148 ?_
      refine lv_aload_n hx hb dX9_meet_149 rfl (lv_at hl 7 rfl) ?_
      refine va_get (D := G) (ci := 9) (v := .ref h4) (C := RX9) (T := TX9) (N := 58) hx hb hts xinX9 hown hK hP 0 rfl rfl 38 (by decide) (hts _ wo_585) (fun _ h9 => h9) rfl dX9_meet_150 ?_
      refine lv_iload hx hb dX9_meet_153 (lv_at hl 2 rfl) ?_
      obtain ⟨hi, hwp⟩ := hwp
      refine va_iald hx hb hK hP 4 0 rfl rfl hi dX9_meet_155 ?_
      refine lv_isub hx hb dX9_meet_156 ?_
      refine lv_imul hx hb dX9_meet_157 ?_
      refine lv_iadd hx hb dX9_meet_158 ?_
      refine lv_topi (fun v159 ev159 => ?_)
      replace hwp := hwp v159 ev159
      clear ev159
      refine lv_istore (lv' := [(10, .int v159), (9, .int v94), (8, .int v84), (7, .int v6), (6, .int v29), (5, .int v21), (4, .int v13), (3, .int v6), (0, .ref h0), (1, .int p0), (2, .int p1)]) hx hb dX9_meet_159 hl (by decide) rfl (fun ls hl => ?_)
      refine lv_aload_n hx hb dX9_meet_161 rfl (lv_at hl 8 rfl) ?_
      refine lv_iload hx hb dX9_meet_162 (lv_at hl 3 rfl) ?_
      refine lv_iload hx hb dX9_meet_164 (lv_at hl 2 rfl) ?_
      refine lv_iload hx hb dX9_meet_166 (lv_at hl 1 rfl) ?_
      refine xci (wr := [(h1, aI cI 80 f18), (h2, aI cI 80 f19)]) (va_runV (As := [.int v6, .int v84, .int v94]) (rest := []) ⟨hx, hb, hml, hown, hts⟩ (zX9_side l G cI cJ cZ h0 h3 h4 h1 h2 k0 k1 k2 k3 k4 k5 k6 k7 k8 k9 k10 k11 k12 k13 k14 k15 k16 k17 k18 k19 k20 k21 k22 k23 k24 k25 k26 k27 k28 k29 k30 k31 k32 k33 k34 k35 s.heap.size i0 i1 i2 i3 i4 i5 i6 i7 i8 i9 i10 i11 i12 i13 i14 i15 i16 i17 f20 f21 v6 v84 v94 _ hwp) (cwV 3 hts (xgoodV wo_683 wo_684 wo_685 wo_686 wo_454) rfl rfl rfl (by decide +kernel) ⟨Nat.le_of_ble_eq_true rfl, Nat.le_of_ble_eq_true rfl⟩) (xPreV (q := (RX9, TX9, 58)) (q0 := 0) hK hN hP hD [0, 3, 4] (by decide) rfl rfl rfl) rfl rfl hl.1 rfl (lv_room (Nat.le_of_ble_eq_true rfl)) dX9_meet_168 ⟨Nat.le_of_ble_eq_true rfl, Nat.le_of_ble_eq_true rfl⟩) hP hD hS hA [0, 3, 4] [1, 2] rfl rfl (by decide) (by decide) (fun r168 u168 H locs hwp hP hD hS => ?_)
      replace hP : va_P G vwCl [(h1, aI cI 80 f18), (h2, aI cI 80 f19), (h0, .inr (9, [.int i0, .int i1, .ref h1, .ref h2, .ref k0, .ref k1, .ref k2, .int i2, .ref k3, .int i3, .ref k4, .ref k5, .ref k6, .int i4, .ref k7, .ref k8, .int i5, .ref k9, .ref k10, .ref k11, .int i6, .ref k12, .int i7, .ref k13, .ref k14, .int i8, .int i9, .int i10, .ref k15, .int i11, .ref k16, .ref k17, .ref k18, .ref k19, .ref k20, .ref k21, .ref k22, .ref h3, .ref h4, .ref k23, .ref k24, .ref k25, .ref k26, .ref k27, .ref k28, .int i12, .int i13, .int i14, .int i15, .int i16, .ref k29, .ref k30, .ref k31, .ref k32, .ref k33, .ref k34, .int i17, .ref k35])), (h3, aI cI 20 f20), (h4, aI cI 20 f21)] H := hP
      replace hD : va_D A [(h1, aI cI 80 f18), (h2, aI cI 80 f19), (h0, .inr (9, [.int i0, .int i1, .ref h1, .ref h2, .ref k0, .ref k1, .ref k2, .int i2, .ref k3, .int i3, .ref k4, .ref k5, .ref k6, .int i4, .ref k7, .ref k8, .int i5, .ref k9, .ref k10, .ref k11, .int i6, .ref k12, .int i7, .ref k13, .ref k14, .int i8, .int i9, .int i10, .ref k15, .int i11, .ref k16, .ref k17, .ref k18, .ref k19, .ref k20, .ref k21, .ref k22, .ref h3, .ref h4, .ref k23, .ref k24, .ref k25, .ref k26, .ref k27, .ref k28, .int i12, .int i13, .int i14, .int i15, .int i16, .ref k29, .ref k30, .ref k31, .ref k32, .ref k33, .ref k34, .int i17, .ref k35])), (h3, aI cI 20 f20), (h4, aI cI 20 f21)] := hD
      refine lv_if_ne (tgt := 183) hx hb dX9_meet_171 (by decide) (fun c171 => ?_) (fun c171 => ?_)
      · replace hwp := hwp.1 c171
        refine lv_iconst (v := 0) hx hb dX9_meet_183 (by decide) ?_
        have hP9 : va_P G vwCl [(h0, .inr (9, [.int i0, .int i1, .ref h1, .ref h2, .ref k0, .ref k1, .ref k2, .int i2, .ref k3, .int i3, .ref k4, .ref k5, .ref k6, .int i4, .ref k7, .ref k8, .int i5, .ref k9, .ref k10, .ref k11, .int i6, .ref k12, .int i7, .ref k13, .ref k14, .int i8, .int i9, .int i10, .ref k15, .int i11, .ref k16, .ref k17, .ref k18, .ref k19, .ref k20, .ref k21, .ref k22, .ref h3, .ref h4, .ref k23, .ref k24, .ref k25, .ref k26, .ref k27, .ref k28, .int i12, .int i13, .int i14, .int i15, .int i16, .ref k29, .ref k30, .ref k31, .ref k32, .ref k33, .ref k34, .int i17, .ref k35])), (h1, aI cI 80 f18), (h2, aI cI 80 f19), (h3, aI cI 20 f20), (h4, aI cI 20 f21)] H := hP.sub [2, 0, 1, 3, 4] rfl
        have hD9 : va_D A [(h0, .inr (9, [.int i0, .int i1, .ref h1, .ref h2, .ref k0, .ref k1, .ref k2, .int i2, .ref k3, .int i3, .ref k4, .ref k5, .ref k6, .int i4, .ref k7, .ref k8, .int i5, .ref k9, .ref k10, .ref k11, .int i6, .ref k12, .int i7, .ref k13, .ref k14, .int i8, .int i9, .int i10, .ref k15, .int i11, .ref k16, .ref k17, .ref k18, .ref k19, .ref k20, .ref k21, .ref k22, .ref h3, .ref h4, .ref k23, .ref k24, .ref k25, .ref k26, .ref k27, .ref k28, .int i12, .int i13, .int i14, .int i15, .int i16, .ref k29, .ref k30, .ref k31, .ref k32, .ref k33, .ref k34, .int i17, .ref k35])), (h1, aI cI 80 f18), (h2, aI cI 80 f19), (h3, aI cI 20 f20), (h4, aI cI 20 f21)] := hD.sub [2, 0, 1, 3, 4] (by decide) rfl
        rw [← hQQ]
        exact W.zret (v := 0) hx hb hr rfl (fun t ht hW => ⟨⟨_, (), rfl, hwp, by rw [ht]; exact hP9, hD9⟩, hS.F ht⟩) hS.2.2 dX9_meet_184
      · replace hwp := hwp.2 c171
        refine lv_iload hx hb dX9_meet_174 (lv_at hl 0 rfl) ?_
        refine lv_if_le (tgt := 183) hx hb dX9_meet_176 (by decide) (fun c176 => ?_) (fun c176 => ?_)
        · replace hwp := hwp.1 c176
          refine lv_iconst (v := 0) hx hb dX9_meet_183 (by decide) ?_
          have hP9 : va_P G vwCl [(h0, .inr (9, [.int i0, .int i1, .ref h1, .ref h2, .ref k0, .ref k1, .ref k2, .int i2, .ref k3, .int i3, .ref k4, .ref k5, .ref k6, .int i4, .ref k7, .ref k8, .int i5, .ref k9, .ref k10, .ref k11, .int i6, .ref k12, .int i7, .ref k13, .ref k14, .int i8, .int i9, .int i10, .ref k15, .int i11, .ref k16, .ref k17, .ref k18, .ref k19, .ref k20, .ref k21, .ref k22, .ref h3, .ref h4, .ref k23, .ref k24, .ref k25, .ref k26, .ref k27, .ref k28, .int i12, .int i13, .int i14, .int i15, .int i16, .ref k29, .ref k30, .ref k31, .ref k32, .ref k33, .ref k34, .int i17, .ref k35])), (h1, aI cI 80 f18), (h2, aI cI 80 f19), (h3, aI cI 20 f20), (h4, aI cI 20 f21)] H := hP.sub [2, 0, 1, 3, 4] rfl
          have hD9 : va_D A [(h0, .inr (9, [.int i0, .int i1, .ref h1, .ref h2, .ref k0, .ref k1, .ref k2, .int i2, .ref k3, .int i3, .ref k4, .ref k5, .ref k6, .int i4, .ref k7, .ref k8, .int i5, .ref k9, .ref k10, .ref k11, .int i6, .ref k12, .int i7, .ref k13, .ref k14, .int i8, .int i9, .int i10, .ref k15, .int i11, .ref k16, .ref k17, .ref k18, .ref k19, .ref k20, .ref k21, .ref k22, .ref h3, .ref h4, .ref k23, .ref k24, .ref k25, .ref k26, .ref k27, .ref k28, .int i12, .int i13, .int i14, .int i15, .int i16, .ref k29, .ref k30, .ref k31, .ref k32, .ref k33, .ref k34, .int i17, .ref k35])), (h1, aI cI 80 f18), (h2, aI cI 80 f19), (h3, aI cI 20 f20), (h4, aI cI 20 f21)] := hD.sub [2, 0, 1, 3, 4] (by decide) rfl
          rw [← hQQ]
          exact W.zret (v := 0) hx hb hr rfl (fun t ht hW => ⟨⟨_, (), rfl, hwp, by rw [ht]; exact hP9, hD9⟩, hS.F ht⟩) hS.2.2 dX9_meet_184
        · replace hwp := hwp.2 c176
          refine lv_iconst (v := 1) hx hb dX9_meet_179 (by decide) ?_
          refine lv_goto (tgt := 184) hx hb dX9_meet_180 (by decide) ?_
          have hP9 : va_P G vwCl [(h0, .inr (9, [.int i0, .int i1, .ref h1, .ref h2, .ref k0, .ref k1, .ref k2, .int i2, .ref k3, .int i3, .ref k4, .ref k5, .ref k6, .int i4, .ref k7, .ref k8, .int i5, .ref k9, .ref k10, .ref k11, .int i6, .ref k12, .int i7, .ref k13, .ref k14, .int i8, .int i9, .int i10, .ref k15, .int i11, .ref k16, .ref k17, .ref k18, .ref k19, .ref k20, .ref k21, .ref k22, .ref h3, .ref h4, .ref k23, .ref k24, .ref k25, .ref k26, .ref k27, .ref k28, .int i12, .int i13, .int i14, .int i15, .int i16, .ref k29, .ref k30, .ref k31, .ref k32, .ref k33, .ref k34, .int i17, .ref k35])), (h1, aI cI 80 f18), (h2, aI cI 80 f19), (h3, aI cI 20 f20), (h4, aI cI 20 f21)] H := hP.sub [2, 0, 1, 3, 4] rfl
          have hD9 : va_D A [(h0, .inr (9, [.int i0, .int i1, .ref h1, .ref h2, .ref k0, .ref k1, .ref k2, .int i2, .ref k3, .int i3, .ref k4, .ref k5, .ref k6, .int i4, .ref k7, .ref k8, .int i5, .ref k9, .ref k10, .ref k11, .int i6, .ref k12, .int i7, .ref k13, .ref k14, .int i8, .int i9, .int i10, .ref k15, .int i11, .ref k16, .ref k17, .ref k18, .ref k19, .ref k20, .ref k21, .ref k22, .ref h3, .ref h4, .ref k23, .ref k24, .ref k25, .ref k26, .ref k27, .ref k28, .int i12, .int i13, .int i14, .int i15, .int i16, .ref k29, .ref k30, .ref k31, .ref k32, .ref k33, .ref k34, .int i17, .ref k35])), (h1, aI cI 80 f18), (h2, aI cI 80 f19), (h3, aI cI 20 f20), (h4, aI cI 20 f21)] := hD.sub [2, 0, 1, 3, 4] (by decide) rfl
          rw [← hQQ]
          exact W.zret (v := 1) hx hb hr rfl (fun t ht hW => ⟨⟨_, (), rfl, hwp, by rw [ht]; exact hP9, hD9⟩, hS.F ht⟩) hS.2.2 dX9_meet_184
    · replace hwp := hwp.2 c60
      refine lv_iload_n hx hb dX9_meet_63 rfl (lv_at hl 3 rfl) ?_
      refine lv_iload hx hb dX9_meet_64 (lv_at hl 0 rfl) ?_
      refine lv_icmp_ne (tgt := 73) hx hb dX9_meet_66 (by decide) (fun c66 => ?_) (fun c66 => ?_)
      · replace hwp := hwp.1 c66
        refine lv_iload hx hb dX9_meet_73 (lv_at hl 2 rfl) ?_
        refine lv_istore (lv' := [(7, .int v13), (6, .int v29), (5, .int v21), (4, .int v13), (3, .int v6), (0, .ref h0), (1, .int p0), (2, .int p1)]) hx hb dX9_meet_75 hl (by decide) rfl (fun ls hl => ?_)
        refine lv_iload_n hx hb dX9_meet_77 rfl (lv_at hl 4 rfl) ?_
        refine lv_iload hx hb dX9_meet_78 (lv_at hl 3 rfl) ?_
        refine lv_iadd hx hb dX9_meet_80 ?_
        refine lv_iload hx hb dX9_meet_81 (lv_at hl 0 rfl) ?_
        refine lv_isub hx hb dX9_meet_83 ?_
        refine lv_topi (fun v84 ev84 => ?_)
        replace hwp := hwp v84 ev84
        clear ev84
        refine lv_istore (lv' := [(8, .int v84), (7, .int v13), (6, .int v29), (5, .int v21), (4, .int v13), (3, .int v6), (0, .ref h0), (1, .int p0), (2, .int p1)]) hx hb dX9_meet_84 hl (by decide) rfl (fun ls hl => ?_)
        refine lv_iload hx hb dX9_meet_86 (lv_at hl 3 rfl) ?_
        refine lv_iload hx hb dX9_meet_88 (lv_at hl 2 rfl) ?_
        refine lv_iadd hx hb dX9_meet_90 ?_
        refine lv_iload hx hb dX9_meet_91 (lv_at hl 1 rfl) ?_
        refine lv_isub hx hb dX9_meet_93 ?_
        refine lv_topi (fun v94 ev94 => ?_)
        replace hwp := hwp v94 ev94
        clear ev94
        refine lv_istore (lv' := [(9, .int v94), (8, .int v84), (7, .int v13), (6, .int v29), (5, .int v21), (4, .int v13), (3, .int v6), (0, .ref h0), (1, .int p0), (2, .int p1)]) hx hb dX9_meet_94 hl (by decide) rfl (fun ls hl => ?_)
        refine lv_aload_n hx hb dX9_meet_96 rfl (lv_at hl 7 rfl) ?_
        refine va_get (D := G) (ci := 9) (v := .ref h3) (C := RX9) (T := TX9) (N := 58) hx hb hts xinX9 hown hK hP 0 rfl rfl 37 (by decide) (hts _ wo_584) (fun _ h9 => h9) rfl dX9_meet_97 ?_
        refine lv_iload hx hb dX9_meet_100 (lv_at hl 1 rfl) ?_
        obtain ⟨hi, hwp⟩ := hwp
        refine va_iald hx hb hK hP 3 0 rfl rfl hi dX9_meet_102 ?_
        refine lv_aload_n hx hb dX9_meet_103 rfl (lv_at hl 7 rfl) ?_
        refine va_get (D := G) (ci := 9) (v := .ref h3) (C := RX9) (T := TX9) (N := 58) hx hb hts xinX9 hown hK hP 0 rfl rfl 37 (by decide) (hts _ wo_584) (fun _ h9 => h9) rfl dX9_meet_104 ?_
        refine lv_iload hx hb dX9_meet_107 (lv_at hl 2 rfl) ?_
        obtain ⟨hi, hwp⟩ := hwp
        refine va_iald hx hb hK hP 3 0 rfl rfl hi dX9_meet_109 ?_
        refine lv_isub hx hb dX9_meet_110 ?_
        refine lv_aload_n hx hb dX9_meet_111 rfl (lv_at hl 7 rfl) ?_
        refine va_get (D := G) (ci := 9) (v := .ref h3) (C := RX9) (T := TX9) (N := 58) hx hb hts xinX9 hown hK hP 0 rfl rfl 37 (by decide) (hts _ wo_584) (fun _ h9 => h9) rfl dX9_meet_112 ?_
        refine lv_iload hx hb dX9_meet_115 (lv_at hl 0 rfl) ?_
        obtain ⟨hi, hwp⟩ := hwp
        refine va_iald hx hb hK hP 3 0 rfl rfl hi dX9_meet_117 ?_
        refine lv_aload_n hx hb dX9_meet_118 rfl (lv_at hl 7 rfl) ?_
        refine va_get (D := G) (ci := 9) (v := .ref h3) (C := RX9) (T := TX9) (N := 58) hx hb hts xinX9 hown hK hP 0 rfl rfl 37 (by decide) (hts _ wo_584) (fun _ h9 => h9) rfl dX9_meet_119 ?_
        refine lv_iload hx hb dX9_meet_122 (lv_at hl 2 rfl) ?_
        obtain ⟨hi, hwp⟩ := hwp
        refine va_iald hx hb hK hP 3 0 rfl rfl hi dX9_meet_124 ?_
        refine lv_isub hx hb dX9_meet_125 ?_
        refine lv_imul hx hb dX9_meet_126 ?_
        refine lv_aload_n hx hb dX9_meet_127 rfl (lv_at hl 7 rfl) ?_
        refine va_get (D := G) (ci := 9) (v := .ref h4) (C := RX9) (T := TX9) (N := 58) hx hb hts xinX9 hown hK hP 0 rfl rfl 38 (by decide) (hts _ wo_585) (fun _ h9 => h9) rfl dX9_meet_128 ?_
        refine lv_iload hx hb dX9_meet_131 (lv_at hl 1 rfl) ?_
        obtain ⟨hi, hwp⟩ := hwp
        refine va_iald hx hb hK hP 4 0 rfl rfl hi dX9_meet_133 ?_
        refine lv_aload_n hx hb dX9_meet_134 rfl (lv_at hl 7 rfl) ?_
        refine va_get (D := G) (ci := 9) (v := .ref h4) (C := RX9) (T := TX9) (N := 58) hx hb hts xinX9 hown hK hP 0 rfl rfl 38 (by decide) (hts _ wo_585) (fun _ h9 => h9) rfl dX9_meet_135 ?_
        refine lv_iload hx hb dX9_meet_138 (lv_at hl 2 rfl) ?_
        obtain ⟨hi, hwp⟩ := hwp
        refine va_iald hx hb hK hP 4 0 rfl rfl hi dX9_meet_140 ?_
        refine lv_isub hx hb dX9_meet_141 ?_
        refine lv_aload_n hx hb dX9_meet_142 rfl (lv_at hl 7 rfl) ?_
        refine va_get (D := G) (ci := 9) (v := .ref h4) (C := RX9) (T := TX9) (N := 58) hx hb hts xinX9 hown hK hP 0 rfl rfl 38 (by decide) (hts _ wo_585) (fun _ h9 => h9) rfl dX9_meet_143 ?_
        refine lv_iload hx hb dX9_meet_146 (lv_at hl 0 rfl) ?_
        obtain ⟨hi, hwp⟩ := hwp
        refine va_iald hx hb hK hP 4 0 rfl rfl hi dX9_meet_148 ?_
        refine lv_aload_n hx hb dX9_meet_149 rfl (lv_at hl 7 rfl) ?_
        refine va_get (D := G) (ci := 9) (v := .ref h4) (C := RX9) (T := TX9) (N := 58) hx hb hts xinX9 hown hK hP 0 rfl rfl 38 (by decide) (hts _ wo_585) (fun _ h9 => h9) rfl dX9_meet_150 ?_
        refine lv_iload hx hb dX9_meet_153 (lv_at hl 2 rfl) ?_
        obtain ⟨hi, hwp⟩ := hwp
        refine va_iald hx hb hK hP 4 0 rfl rfl hi dX9_meet_155 ?_
        refine lv_isub hx hb dX9_meet_156 ?_
        refine lv_imul hx hb dX9_meet_157 ?_
        refine lv_iadd hx hb dX9_meet_158 ?_
        refine lv_topi (fun v159 ev159 => ?_)
        replace hwp := hwp v159 ev159
        clear ev159
        refine lv_istore (lv' := [(10, .int v159), (9, .int v94), (8, .int v84), (7, .int v13), (6, .int v29), (5, .int v21), (4, .int v13), (3, .int v6), (0, .ref h0), (1, .int p0), (2, .int p1)]) hx hb dX9_meet_159 hl (by decide) rfl (fun ls hl => ?_)
        refine lv_aload_n hx hb dX9_meet_161 rfl (lv_at hl 8 rfl) ?_
        refine lv_iload hx hb dX9_meet_162 (lv_at hl 3 rfl) ?_
        refine lv_iload hx hb dX9_meet_164 (lv_at hl 2 rfl) ?_
        refine lv_iload hx hb dX9_meet_166 (lv_at hl 1 rfl) ?_
        refine xci (wr := [(h1, aI cI 80 f18), (h2, aI cI 80 f19)]) (va_runV (As := [.int v13, .int v84, .int v94]) (rest := []) ⟨hx, hb, hml, hown, hts⟩ (zX9_side l G cI cJ cZ h0 h3 h4 h1 h2 k0 k1 k2 k3 k4 k5 k6 k7 k8 k9 k10 k11 k12 k13 k14 k15 k16 k17 k18 k19 k20 k21 k22 k23 k24 k25 k26 k27 k28 k29 k30 k31 k32 k33 k34 k35 s.heap.size i0 i1 i2 i3 i4 i5 i6 i7 i8 i9 i10 i11 i12 i13 i14 i15 i16 i17 f20 f21 v13 v84 v94 _ hwp) (cwV 3 hts (xgoodV wo_683 wo_684 wo_685 wo_686 wo_454) rfl rfl rfl (by decide +kernel) ⟨Nat.le_of_ble_eq_true rfl, Nat.le_of_ble_eq_true rfl⟩) (xPreV (q := (RX9, TX9, 58)) (q0 := 0) hK hN hP hD [0, 3, 4] (by decide) rfl rfl rfl) rfl rfl hl.1 rfl (lv_room (Nat.le_of_ble_eq_true rfl)) dX9_meet_168 ⟨Nat.le_of_ble_eq_true rfl, Nat.le_of_ble_eq_true rfl⟩) hP hD hS hA [0, 3, 4] [1, 2] rfl rfl (by decide) (by decide) (fun r168 u168 H locs hwp hP hD hS => ?_)
        replace hP : va_P G vwCl [(h1, aI cI 80 f18), (h2, aI cI 80 f19), (h0, .inr (9, [.int i0, .int i1, .ref h1, .ref h2, .ref k0, .ref k1, .ref k2, .int i2, .ref k3, .int i3, .ref k4, .ref k5, .ref k6, .int i4, .ref k7, .ref k8, .int i5, .ref k9, .ref k10, .ref k11, .int i6, .ref k12, .int i7, .ref k13, .ref k14, .int i8, .int i9, .int i10, .ref k15, .int i11, .ref k16, .ref k17, .ref k18, .ref k19, .ref k20, .ref k21, .ref k22, .ref h3, .ref h4, .ref k23, .ref k24, .ref k25, .ref k26, .ref k27, .ref k28, .int i12, .int i13, .int i14, .int i15, .int i16, .ref k29, .ref k30, .ref k31, .ref k32, .ref k33, .ref k34, .int i17, .ref k35])), (h3, aI cI 20 f20), (h4, aI cI 20 f21)] H := hP
        replace hD : va_D A [(h1, aI cI 80 f18), (h2, aI cI 80 f19), (h0, .inr (9, [.int i0, .int i1, .ref h1, .ref h2, .ref k0, .ref k1, .ref k2, .int i2, .ref k3, .int i3, .ref k4, .ref k5, .ref k6, .int i4, .ref k7, .ref k8, .int i5, .ref k9, .ref k10, .ref k11, .int i6, .ref k12, .int i7, .ref k13, .ref k14, .int i8, .int i9, .int i10, .ref k15, .int i11, .ref k16, .ref k17, .ref k18, .ref k19, .ref k20, .ref k21, .ref k22, .ref h3, .ref h4, .ref k23, .ref k24, .ref k25, .ref k26, .ref k27, .ref k28, .int i12, .int i13, .int i14, .int i15, .int i16, .ref k29, .ref k30, .ref k31, .ref k32, .ref k33, .ref k34, .int i17, .ref k35])), (h3, aI cI 20 f20), (h4, aI cI 20 f21)] := hD
        refine lv_if_ne (tgt := 183) hx hb dX9_meet_171 (by decide) (fun c171 => ?_) (fun c171 => ?_)
        · replace hwp := hwp.1 c171
          refine lv_iconst (v := 0) hx hb dX9_meet_183 (by decide) ?_
          have hP9 : va_P G vwCl [(h0, .inr (9, [.int i0, .int i1, .ref h1, .ref h2, .ref k0, .ref k1, .ref k2, .int i2, .ref k3, .int i3, .ref k4, .ref k5, .ref k6, .int i4, .ref k7, .ref k8, .int i5, .ref k9, .ref k10, .ref k11, .int i6, .ref k12, .int i7, .ref k13, .ref k14, .int i8, .int i9, .int i10, .ref k15, .int i11, .ref k16, .ref k17, .ref k18, .ref k19, .ref k20, .ref k21, .ref k22, .ref h3, .ref h4, .ref k23, .ref k24, .ref k25, .ref k26, .ref k27, .ref k28, .int i12, .int i13, .int i14, .int i15, .int i16, .ref k29, .ref k30, .ref k31, .ref k32, .ref k33, .ref k34, .int i17, .ref k35])), (h1, aI cI 80 f18), (h2, aI cI 80 f19), (h3, aI cI 20 f20), (h4, aI cI 20 f21)] H := hP.sub [2, 0, 1, 3, 4] rfl
          have hD9 : va_D A [(h0, .inr (9, [.int i0, .int i1, .ref h1, .ref h2, .ref k0, .ref k1, .ref k2, .int i2, .ref k3, .int i3, .ref k4, .ref k5, .ref k6, .int i4, .ref k7, .ref k8, .int i5, .ref k9, .ref k10, .ref k11, .int i6, .ref k12, .int i7, .ref k13, .ref k14, .int i8, .int i9, .int i10, .ref k15, .int i11, .ref k16, .ref k17, .ref k18, .ref k19, .ref k20, .ref k21, .ref k22, .ref h3, .ref h4, .ref k23, .ref k24, .ref k25, .ref k26, .ref k27, .ref k28, .int i12, .int i13, .int i14, .int i15, .int i16, .ref k29, .ref k30, .ref k31, .ref k32, .ref k33, .ref k34, .int i17, .ref k35])), (h1, aI cI 80 f18), (h2, aI cI 80 f19), (h3, aI cI 20 f20), (h4, aI cI 20 f21)] := hD.sub [2, 0, 1, 3, 4] (by decide) rfl
          rw [← hQQ]
          exact W.zret (v := 0) hx hb hr rfl (fun t ht hW => ⟨⟨_, (), rfl, hwp, by rw [ht]; exact hP9, hD9⟩, hS.F ht⟩) hS.2.2 dX9_meet_184
        · replace hwp := hwp.2 c171
          refine lv_iload hx hb dX9_meet_174 (lv_at hl 0 rfl) ?_
          refine lv_if_le (tgt := 183) hx hb dX9_meet_176 (by decide) (fun c176 => ?_) (fun c176 => ?_)
          · replace hwp := hwp.1 c176
            refine lv_iconst (v := 0) hx hb dX9_meet_183 (by decide) ?_
            have hP9 : va_P G vwCl [(h0, .inr (9, [.int i0, .int i1, .ref h1, .ref h2, .ref k0, .ref k1, .ref k2, .int i2, .ref k3, .int i3, .ref k4, .ref k5, .ref k6, .int i4, .ref k7, .ref k8, .int i5, .ref k9, .ref k10, .ref k11, .int i6, .ref k12, .int i7, .ref k13, .ref k14, .int i8, .int i9, .int i10, .ref k15, .int i11, .ref k16, .ref k17, .ref k18, .ref k19, .ref k20, .ref k21, .ref k22, .ref h3, .ref h4, .ref k23, .ref k24, .ref k25, .ref k26, .ref k27, .ref k28, .int i12, .int i13, .int i14, .int i15, .int i16, .ref k29, .ref k30, .ref k31, .ref k32, .ref k33, .ref k34, .int i17, .ref k35])), (h1, aI cI 80 f18), (h2, aI cI 80 f19), (h3, aI cI 20 f20), (h4, aI cI 20 f21)] H := hP.sub [2, 0, 1, 3, 4] rfl
            have hD9 : va_D A [(h0, .inr (9, [.int i0, .int i1, .ref h1, .ref h2, .ref k0, .ref k1, .ref k2, .int i2, .ref k3, .int i3, .ref k4, .ref k5, .ref k6, .int i4, .ref k7, .ref k8, .int i5, .ref k9, .ref k10, .ref k11, .int i6, .ref k12, .int i7, .ref k13, .ref k14, .int i8, .int i9, .int i10, .ref k15, .int i11, .ref k16, .ref k17, .ref k18, .ref k19, .ref k20, .ref k21, .ref k22, .ref h3, .ref h4, .ref k23, .ref k24, .ref k25, .ref k26, .ref k27, .ref k28, .int i12, .int i13, .int i14, .int i15, .int i16, .ref k29, .ref k30, .ref k31, .ref k32, .ref k33, .ref k34, .int i17, .ref k35])), (h1, aI cI 80 f18), (h2, aI cI 80 f19), (h3, aI cI 20 f20), (h4, aI cI 20 f21)] := hD.sub [2, 0, 1, 3, 4] (by decide) rfl
            rw [← hQQ]
            exact W.zret (v := 0) hx hb hr rfl (fun t ht hW => ⟨⟨_, (), rfl, hwp, by rw [ht]; exact hP9, hD9⟩, hS.F ht⟩) hS.2.2 dX9_meet_184
          · replace hwp := hwp.2 c176
            refine lv_iconst (v := 1) hx hb dX9_meet_179 (by decide) ?_
            refine lv_goto (tgt := 184) hx hb dX9_meet_180 (by decide) ?_
            have hP9 : va_P G vwCl [(h0, .inr (9, [.int i0, .int i1, .ref h1, .ref h2, .ref k0, .ref k1, .ref k2, .int i2, .ref k3, .int i3, .ref k4, .ref k5, .ref k6, .int i4, .ref k7, .ref k8, .int i5, .ref k9, .ref k10, .ref k11, .int i6, .ref k12, .int i7, .ref k13, .ref k14, .int i8, .int i9, .int i10, .ref k15, .int i11, .ref k16, .ref k17, .ref k18, .ref k19, .ref k20, .ref k21, .ref k22, .ref h3, .ref h4, .ref k23, .ref k24, .ref k25, .ref k26, .ref k27, .ref k28, .int i12, .int i13, .int i14, .int i15, .int i16, .ref k29, .ref k30, .ref k31, .ref k32, .ref k33, .ref k34, .int i17, .ref k35])), (h1, aI cI 80 f18), (h2, aI cI 80 f19), (h3, aI cI 20 f20), (h4, aI cI 20 f21)] H := hP.sub [2, 0, 1, 3, 4] rfl
            have hD9 : va_D A [(h0, .inr (9, [.int i0, .int i1, .ref h1, .ref h2, .ref k0, .ref k1, .ref k2, .int i2, .ref k3, .int i3, .ref k4, .ref k5, .ref k6, .int i4, .ref k7, .ref k8, .int i5, .ref k9, .ref k10, .ref k11, .int i6, .ref k12, .int i7, .ref k13, .ref k14, .int i8, .int i9, .int i10, .ref k15, .int i11, .ref k16, .ref k17, .ref k18, .ref k19, .ref k20, .ref k21, .ref k22, .ref h3, .ref h4, .ref k23, .ref k24, .ref k25, .ref k26, .ref k27, .ref k28, .int i12, .int i13, .int i14, .int i15, .int i16, .ref k29, .ref k30, .ref k31, .ref k32, .ref k33, .ref k34, .int i17, .ref k35])), (h1, aI cI 80 f18), (h2, aI cI 80 f19), (h3, aI cI 20 f20), (h4, aI cI 20 f21)] := hD.sub [2, 0, 1, 3, 4] (by decide) rfl
            rw [← hQQ]
            exact W.zret (v := 1) hx hb hr rfl (fun t ht hW => ⟨⟨_, (), rfl, hwp, by rw [ht]; exact hP9, hD9⟩, hS.F ht⟩) hS.2.2 dX9_meet_184
      · replace hwp := hwp.2 c66
        refine lv_iload_n hx hb dX9_meet_69 rfl (lv_at hl 3 rfl) ?_
        refine lv_goto (tgt := 75) hx hb dX9_meet_70 (by decide) ?_
        refine lv_istore (lv' := [(7, .int v6), (6, .int v29), (5, .int v21), (4, .int v13), (3, .int v6), (0, .ref h0), (1, .int p0), (2, .int p1)]) hx hb dX9_meet_75 hl (by decide) rfl (fun ls hl => ?_)
        refine lv_iload_n hx hb dX9_meet_77 rfl (lv_at hl 4 rfl) ?_
        refine lv_iload hx hb dX9_meet_78 (lv_at hl 3 rfl) ?_
        refine lv_iadd hx hb dX9_meet_80 ?_
        refine lv_iload hx hb dX9_meet_81 (lv_at hl 0 rfl) ?_
        refine lv_isub hx hb dX9_meet_83 ?_
        refine lv_topi (fun v84 ev84 => ?_)
        replace hwp := hwp v84 ev84
        clear ev84
        refine lv_istore (lv' := [(8, .int v84), (7, .int v6), (6, .int v29), (5, .int v21), (4, .int v13), (3, .int v6), (0, .ref h0), (1, .int p0), (2, .int p1)]) hx hb dX9_meet_84 hl (by decide) rfl (fun ls hl => ?_)
        refine lv_iload hx hb dX9_meet_86 (lv_at hl 3 rfl) ?_
        refine lv_iload hx hb dX9_meet_88 (lv_at hl 2 rfl) ?_
        refine lv_iadd hx hb dX9_meet_90 ?_
        refine lv_iload hx hb dX9_meet_91 (lv_at hl 1 rfl) ?_
        refine lv_isub hx hb dX9_meet_93 ?_
        refine lv_topi (fun v94 ev94 => ?_)
        replace hwp := hwp v94 ev94
        clear ev94
        refine lv_istore (lv' := [(9, .int v94), (8, .int v84), (7, .int v6), (6, .int v29), (5, .int v21), (4, .int v13), (3, .int v6), (0, .ref h0), (1, .int p0), (2, .int p1)]) hx hb dX9_meet_94 hl (by decide) rfl (fun ls hl => ?_)
        refine lv_aload_n hx hb dX9_meet_96 rfl (lv_at hl 7 rfl) ?_
        refine va_get (D := G) (ci := 9) (v := .ref h3) (C := RX9) (T := TX9) (N := 58) hx hb hts xinX9 hown hK hP 0 rfl rfl 37 (by decide) (hts _ wo_584) (fun _ h9 => h9) rfl dX9_meet_97 ?_
        refine lv_iload hx hb dX9_meet_100 (lv_at hl 1 rfl) ?_
        obtain ⟨hi, hwp⟩ := hwp
        refine va_iald hx hb hK hP 3 0 rfl rfl hi dX9_meet_102 ?_
        refine lv_aload_n hx hb dX9_meet_103 rfl (lv_at hl 7 rfl) ?_
        refine va_get (D := G) (ci := 9) (v := .ref h3) (C := RX9) (T := TX9) (N := 58) hx hb hts xinX9 hown hK hP 0 rfl rfl 37 (by decide) (hts _ wo_584) (fun _ h9 => h9) rfl dX9_meet_104 ?_
        refine lv_iload hx hb dX9_meet_107 (lv_at hl 2 rfl) ?_
        obtain ⟨hi, hwp⟩ := hwp
        refine va_iald hx hb hK hP 3 0 rfl rfl hi dX9_meet_109 ?_
        refine lv_isub hx hb dX9_meet_110 ?_
        refine lv_aload_n hx hb dX9_meet_111 rfl (lv_at hl 7 rfl) ?_
        refine va_get (D := G) (ci := 9) (v := .ref h3) (C := RX9) (T := TX9) (N := 58) hx hb hts xinX9 hown hK hP 0 rfl rfl 37 (by decide) (hts _ wo_584) (fun _ h9 => h9) rfl dX9_meet_112 ?_
        refine lv_iload hx hb dX9_meet_115 (lv_at hl 0 rfl) ?_
        obtain ⟨hi, hwp⟩ := hwp
        refine va_iald hx hb hK hP 3 0 rfl rfl hi dX9_meet_117 ?_
        refine lv_aload_n hx hb dX9_meet_118 rfl (lv_at hl 7 rfl) ?_
        refine va_get (D := G) (ci := 9) (v := .ref h3) (C := RX9) (T := TX9) (N := 58) hx hb hts xinX9 hown hK hP 0 rfl rfl 37 (by decide) (hts _ wo_584) (fun _ h9 => h9) rfl dX9_meet_119 ?_
        refine lv_iload hx hb dX9_meet_122 (lv_at hl 2 rfl) ?_
        obtain ⟨hi, hwp⟩ := hwp
        refine va_iald hx hb hK hP 3 0 rfl rfl hi dX9_meet_124 ?_
        refine lv_isub hx hb dX9_meet_125 ?_
        refine lv_imul hx hb dX9_meet_126 ?_
        refine lv_aload_n hx hb dX9_meet_127 rfl (lv_at hl 7 rfl) ?_
        refine va_get (D := G) (ci := 9) (v := .ref h4) (C := RX9) (T := TX9) (N := 58) hx hb hts xinX9 hown hK hP 0 rfl rfl 38 (by decide) (hts _ wo_585) (fun _ h9 => h9) rfl dX9_meet_128 ?_
        refine lv_iload hx hb dX9_meet_131 (lv_at hl 1 rfl) ?_
        obtain ⟨hi, hwp⟩ := hwp
        refine va_iald hx hb hK hP 4 0 rfl rfl hi dX9_meet_133 ?_
        refine lv_aload_n hx hb dX9_meet_134 rfl (lv_at hl 7 rfl) ?_
        refine va_get (D := G) (ci := 9) (v := .ref h4) (C := RX9) (T := TX9) (N := 58) hx hb hts xinX9 hown hK hP 0 rfl rfl 38 (by decide) (hts _ wo_585) (fun _ h9 => h9) rfl dX9_meet_135 ?_
        refine lv_iload hx hb dX9_meet_138 (lv_at hl 2 rfl) ?_
        obtain ⟨hi, hwp⟩ := hwp
        refine va_iald hx hb hK hP 4 0 rfl rfl hi dX9_meet_140 ?_
        refine lv_isub hx hb dX9_meet_141 ?_
        refine lv_aload_n hx hb dX9_meet_142 rfl (lv_at hl 7 rfl) ?_
        refine va_get (D := G) (ci := 9) (v := .ref h4) (C := RX9) (T := TX9) (N := 58) hx hb hts xinX9 hown hK hP 0 rfl rfl 38 (by decide) (hts _ wo_585) (fun _ h9 => h9) rfl dX9_meet_143 ?_
        refine lv_iload hx hb dX9_meet_146 (lv_at hl 0 rfl) ?_
        obtain ⟨hi, hwp⟩ := hwp
        refine va_iald hx hb hK hP 4 0 rfl rfl hi dX9_meet_148 ?_
        refine lv_aload_n hx hb dX9_meet_149 rfl (lv_at hl 7 rfl) ?_
        refine va_get (D := G) (ci := 9) (v := .ref h4) (C := RX9) (T := TX9) (N := 58) hx hb hts xinX9 hown hK hP 0 rfl rfl 38 (by decide) (hts _ wo_585) (fun _ h9 => h9) rfl dX9_meet_150 ?_
        refine lv_iload hx hb dX9_meet_153 (lv_at hl 2 rfl) ?_
        obtain ⟨hi, hwp⟩ := hwp
        refine va_iald hx hb hK hP 4 0 rfl rfl hi dX9_meet_155 ?_
        refine lv_isub hx hb dX9_meet_156 ?_
        refine lv_imul hx hb dX9_meet_157 ?_
        refine lv_iadd hx hb dX9_meet_158 ?_
        refine lv_topi (fun v159 ev159 => ?_)
        replace hwp := hwp v159 ev159
        clear ev159
        refine lv_istore (lv' := [(10, .int v159), (9, .int v94), (8, .int v84), (7, .int v6), (6, .int v29), (5, .int v21), (4, .int v13), (3, .int v6), (0, .ref h0), (1, .int p0), (2, .int p1)]) hx hb dX9_meet_159 hl (by decide) rfl (fun ls hl => ?_)
        refine lv_aload_n hx hb dX9_meet_161 rfl (lv_at hl 8 rfl) ?_
        refine lv_iload hx hb dX9_meet_162 (lv_at hl 3 rfl) ?_
        refine lv_iload hx hb dX9_meet_164 (lv_at hl 2 rfl) ?_
        refine lv_iload hx hb dX9_meet_166 (lv_at hl 1 rfl) ?_
        refine xci (wr := [(h1, aI cI 80 f18), (h2, aI cI 80 f19)]) (va_runV (As := [.int v6, .int v84, .int v94]) (rest := []) ⟨hx, hb, hml, hown, hts⟩ (zX9_side l G cI cJ cZ h0 h3 h4 h1 h2 k0 k1 k2 k3 k4 k5 k6 k7 k8 k9 k10 k11 k12 k13 k14 k15 k16 k17 k18 k19 k20 k21 k22 k23 k24 k25 k26 k27 k28 k29 k30 k31 k32 k33 k34 k35 s.heap.size i0 i1 i2 i3 i4 i5 i6 i7 i8 i9 i10 i11 i12 i13 i14 i15 i16 i17 f20 f21 v6 v84 v94 _ hwp) (cwV 3 hts (xgoodV wo_683 wo_684 wo_685 wo_686 wo_454) rfl rfl rfl (by decide +kernel) ⟨Nat.le_of_ble_eq_true rfl, Nat.le_of_ble_eq_true rfl⟩) (xPreV (q := (RX9, TX9, 58)) (q0 := 0) hK hN hP hD [0, 3, 4] (by decide) rfl rfl rfl) rfl rfl hl.1 rfl (lv_room (Nat.le_of_ble_eq_true rfl)) dX9_meet_168 ⟨Nat.le_of_ble_eq_true rfl, Nat.le_of_ble_eq_true rfl⟩) hP hD hS hA [0, 3, 4] [1, 2] rfl rfl (by decide) (by decide) (fun r168 u168 H locs hwp hP hD hS => ?_)
        replace hP : va_P G vwCl [(h1, aI cI 80 f18), (h2, aI cI 80 f19), (h0, .inr (9, [.int i0, .int i1, .ref h1, .ref h2, .ref k0, .ref k1, .ref k2, .int i2, .ref k3, .int i3, .ref k4, .ref k5, .ref k6, .int i4, .ref k7, .ref k8, .int i5, .ref k9, .ref k10, .ref k11, .int i6, .ref k12, .int i7, .ref k13, .ref k14, .int i8, .int i9, .int i10, .ref k15, .int i11, .ref k16, .ref k17, .ref k18, .ref k19, .ref k20, .ref k21, .ref k22, .ref h3, .ref h4, .ref k23, .ref k24, .ref k25, .ref k26, .ref k27, .ref k28, .int i12, .int i13, .int i14, .int i15, .int i16, .ref k29, .ref k30, .ref k31, .ref k32, .ref k33, .ref k34, .int i17, .ref k35])), (h3, aI cI 20 f20), (h4, aI cI 20 f21)] H := hP
        replace hD : va_D A [(h1, aI cI 80 f18), (h2, aI cI 80 f19), (h0, .inr (9, [.int i0, .int i1, .ref h1, .ref h2, .ref k0, .ref k1, .ref k2, .int i2, .ref k3, .int i3, .ref k4, .ref k5, .ref k6, .int i4, .ref k7, .ref k8, .int i5, .ref k9, .ref k10, .ref k11, .int i6, .ref k12, .int i7, .ref k13, .ref k14, .int i8, .int i9, .int i10, .ref k15, .int i11, .ref k16, .ref k17, .ref k18, .ref k19, .ref k20, .ref k21, .ref k22, .ref h3, .ref h4, .ref k23, .ref k24, .ref k25, .ref k26, .ref k27, .ref k28, .int i12, .int i13, .int i14, .int i15, .int i16, .ref k29, .ref k30, .ref k31, .ref k32, .ref k33, .ref k34, .int i17, .ref k35])), (h3, aI cI 20 f20), (h4, aI cI 20 f21)] := hD
        refine lv_if_ne (tgt := 183) hx hb dX9_meet_171 (by decide) (fun c171 => ?_) (fun c171 => ?_)
        · replace hwp := hwp.1 c171
          refine lv_iconst (v := 0) hx hb dX9_meet_183 (by decide) ?_
          have hP9 : va_P G vwCl [(h0, .inr (9, [.int i0, .int i1, .ref h1, .ref h2, .ref k0, .ref k1, .ref k2, .int i2, .ref k3, .int i3, .ref k4, .ref k5, .ref k6, .int i4, .ref k7, .ref k8, .int i5, .ref k9, .ref k10, .ref k11, .int i6, .ref k12, .int i7, .ref k13, .ref k14, .int i8, .int i9, .int i10, .ref k15, .int i11, .ref k16, .ref k17, .ref k18, .ref k19, .ref k20, .ref k21, .ref k22, .ref h3, .ref h4, .ref k23, .ref k24, .ref k25, .ref k26, .ref k27, .ref k28, .int i12, .int i13, .int i14, .int i15, .int i16, .ref k29, .ref k30, .ref k31, .ref k32, .ref k33, .ref k34, .int i17, .ref k35])), (h1, aI cI 80 f18), (h2, aI cI 80 f19), (h3, aI cI 20 f20), (h4, aI cI 20 f21)] H := hP.sub [2, 0, 1, 3, 4] rfl
          have hD9 : va_D A [(h0, .inr (9, [.int i0, .int i1, .ref h1, .ref h2, .ref k0, .ref k1, .ref k2, .int i2, .ref k3, .int i3, .ref k4, .ref k5, .ref k6, .int i4, .ref k7, .ref k8, .int i5, .ref k9, .ref k10, .ref k11, .int i6, .ref k12, .int i7, .ref k13, .ref k14, .int i8, .int i9, .int i10, .ref k15, .int i11, .ref k16, .ref k17, .ref k18, .ref k19, .ref k20, .ref k21, .ref k22, .ref h3, .ref h4, .ref k23, .ref k24, .ref k25, .ref k26, .ref k27, .ref k28, .int i12, .int i13, .int i14, .int i15, .int i16, .ref k29, .ref k30, .ref k31, .ref k32, .ref k33, .ref k34, .int i17, .ref k35])), (h1, aI cI 80 f18), (h2, aI cI 80 f19), (h3, aI cI 20 f20), (h4, aI cI 20 f21)] := hD.sub [2, 0, 1, 3, 4] (by decide) rfl
          rw [← hQQ]
          exact W.zret (v := 0) hx hb hr rfl (fun t ht hW => ⟨⟨_, (), rfl, hwp, by rw [ht]; exact hP9, hD9⟩, hS.F ht⟩) hS.2.2 dX9_meet_184
        · replace hwp := hwp.2 c171
          refine lv_iload hx hb dX9_meet_174 (lv_at hl 0 rfl) ?_
          refine lv_if_le (tgt := 183) hx hb dX9_meet_176 (by decide) (fun c176 => ?_) (fun c176 => ?_)
          · replace hwp := hwp.1 c176
            refine lv_iconst (v := 0) hx hb dX9_meet_183 (by decide) ?_
            have hP9 : va_P G vwCl [(h0, .inr (9, [.int i0, .int i1, .ref h1, .ref h2, .ref k0, .ref k1, .ref k2, .int i2, .ref k3, .int i3, .ref k4, .ref k5, .ref k6, .int i4, .ref k7, .ref k8, .int i5, .ref k9, .ref k10, .ref k11, .int i6, .ref k12, .int i7, .ref k13, .ref k14, .int i8, .int i9, .int i10, .ref k15, .int i11, .ref k16, .ref k17, .ref k18, .ref k19, .ref k20, .ref k21, .ref k22, .ref h3, .ref h4, .ref k23, .ref k24, .ref k25, .ref k26, .ref k27, .ref k28, .int i12, .int i13, .int i14, .int i15, .int i16, .ref k29, .ref k30, .ref k31, .ref k32, .ref k33, .ref k34, .int i17, .ref k35])), (h1, aI cI 80 f18), (h2, aI cI 80 f19), (h3, aI cI 20 f20), (h4, aI cI 20 f21)] H := hP.sub [2, 0, 1, 3, 4] rfl
            have hD9 : va_D A [(h0, .inr (9, [.int i0, .int i1, .ref h1, .ref h2, .ref k0, .ref k1, .ref k2, .int i2, .ref k3, .int i3, .ref k4, .ref k5, .ref k6, .int i4, .ref k7, .ref k8, .int i5, .ref k9, .ref k10, .ref k11, .int i6, .ref k12, .int i7, .ref k13, .ref k14, .int i8, .int i9, .int i10, .ref k15, .int i11, .ref k16, .ref k17, .ref k18, .ref k19, .ref k20, .ref k21, .ref k22, .ref h3, .ref h4, .ref k23, .ref k24, .ref k25, .ref k26, .ref k27, .ref k28, .int i12, .int i13, .int i14, .int i15, .int i16, .ref k29, .ref k30, .ref k31, .ref k32, .ref k33, .ref k34, .int i17, .ref k35])), (h1, aI cI 80 f18), (h2, aI cI 80 f19), (h3, aI cI 20 f20), (h4, aI cI 20 f21)] := hD.sub [2, 0, 1, 3, 4] (by decide) rfl
            rw [← hQQ]
            exact W.zret (v := 0) hx hb hr rfl (fun t ht hW => ⟨⟨_, (), rfl, hwp, by rw [ht]; exact hP9, hD9⟩, hS.F ht⟩) hS.2.2 dX9_meet_184
          · replace hwp := hwp.2 c176
            refine lv_iconst (v := 1) hx hb dX9_meet_179 (by decide) ?_
            refine lv_goto (tgt := 184) hx hb dX9_meet_180 (by decide) ?_
            have hP9 : va_P G vwCl [(h0, .inr (9, [.int i0, .int i1, .ref h1, .ref h2, .ref k0, .ref k1, .ref k2, .int i2, .ref k3, .int i3, .ref k4, .ref k5, .ref k6, .int i4, .ref k7, .ref k8, .int i5, .ref k9, .ref k10, .ref k11, .int i6, .ref k12, .int i7, .ref k13, .ref k14, .int i8, .int i9, .int i10, .ref k15, .int i11, .ref k16, .ref k17, .ref k18, .ref k19, .ref k20, .ref k21, .ref k22, .ref h3, .ref h4, .ref k23, .ref k24, .ref k25, .ref k26, .ref k27, .ref k28, .int i12, .int i13, .int i14, .int i15, .int i16, .ref k29, .ref k30, .ref k31, .ref k32, .ref k33, .ref k34, .int i17, .ref k35])), (h1, aI cI 80 f18), (h2, aI cI 80 f19), (h3, aI cI 20 f20), (h4, aI cI 20 f21)] H := hP.sub [2, 0, 1, 3, 4] rfl
            have hD9 : va_D A [(h0, .inr (9, [.int i0, .int i1, .ref h1, .ref h2, .ref k0, .ref k1, .ref k2, .int i2, .ref k3, .int i3, .ref k4, .ref k5, .ref k6, .int i4, .ref k7, .ref k8, .int i5, .ref k9, .ref k10, .ref k11, .int i6, .ref k12, .int i7, .ref k13, .ref k14, .int i8, .int i9, .int i10, .ref k15, .int i11, .ref k16, .ref k17, .ref k18, .ref k19, .ref k20, .ref k21, .ref k22, .ref h3, .ref h4, .ref k23, .ref k24, .ref k25, .ref k26, .ref k27, .ref k28, .int i12, .int i13, .int i14, .int i15, .int i16, .ref k29, .ref k30, .ref k31, .ref k32, .ref k33, .ref k34, .int i17, .ref k35])), (h1, aI cI 80 f18), (h2, aI cI 80 f19), (h3, aI cI 20 f20), (h4, aI cI 20 f21)] := hD.sub [2, 0, 1, 3, 4] (by decide) rfl
            rw [← hQQ]
            exact W.zret (v := 1) hx hb hr rfl (fun t ht hW => ⟨⟨_, (), rfl, hwp, by rw [ht]; exact hP9, hD9⟩, hS.F ht⟩) hS.2.2 dX9_meet_184
  · replace hwp := hwp.2 c34
    refine lv_iload_n hx hb dX9_meet_37 rfl (lv_at hl 3 rfl) ?_
    refine lv_iload hx hb dX9_meet_38 (lv_at hl 0 rfl) ?_
    refine lv_icmp_eq (tgt := 57) hx hb dX9_meet_40 (by decide) (fun c40 => ?_) (fun c40 => ?_)
    · replace hwp := hwp.1 c40
      refine lv_iload_n hx hb dX9_meet_57 rfl (lv_at hl 3 rfl) ?_
      refine lv_iload hx hb dX9_meet_58 (lv_at hl 1 rfl) ?_
      refine lv_icmp_eq (tgt := 69) hx hb dX9_meet_60 (by decide) (fun c60 => ?_) (fun c60 => ?_)
      · replace hwp := hwp.1 c60
        refine lv_iload_n hx hb dX9_meet_69 rfl (lv_at hl 3 rfl) ?_
        refine lv_goto (tgt := 75) hx hb dX9_meet_70 (by decide) ?_
        refine lv_istore (lv' := [(7, .int v6), (6, .int v29), (5, .int v21), (4, .int v13), (3, .int v6), (0, .ref h0), (1, .int p0), (2, .int p1)]) hx hb dX9_meet_75 hl (by decide) rfl (fun ls hl => ?_)
        refine lv_iload_n hx hb dX9_meet_77 rfl (lv_at hl 4 rfl) ?_
        refine lv_iload hx hb dX9_meet_78 (lv_at hl 3 rfl) ?_
        refine lv_iadd hx hb dX9_meet_80 ?_
        refine lv_iload hx hb dX9_meet_81 (lv_at hl 0 rfl) ?_
        refine lv_isub hx hb dX9_meet_83 ?_
        refine lv_topi (fun v84 ev84 => ?_)
        replace hwp := hwp v84 ev84
        clear ev84
        refine lv_istore (lv' := [(8, .int v84), (7, .int v6), (6, .int v29), (5, .int v21), (4, .int v13), (3, .int v6), (0, .ref h0), (1, .int p0), (2, .int p1)]) hx hb dX9_meet_84 hl (by decide) rfl (fun ls hl => ?_)
        refine lv_iload hx hb dX9_meet_86 (lv_at hl 3 rfl) ?_
        refine lv_iload hx hb dX9_meet_88 (lv_at hl 2 rfl) ?_
        refine lv_iadd hx hb dX9_meet_90 ?_
        refine lv_iload hx hb dX9_meet_91 (lv_at hl 1 rfl) ?_
        refine lv_isub hx hb dX9_meet_93 ?_
        refine lv_topi (fun v94 ev94 => ?_)
        replace hwp := hwp v94 ev94
        clear ev94
        refine lv_istore (lv' := [(9, .int v94), (8, .int v84), (7, .int v6), (6, .int v29), (5, .int v21), (4, .int v13), (3, .int v6), (0, .ref h0), (1, .int p0), (2, .int p1)]) hx hb dX9_meet_94 hl (by decide) rfl (fun ls hl => ?_)
        refine lv_aload_n hx hb dX9_meet_96 rfl (lv_at hl 7 rfl) ?_
        refine va_get (D := G) (ci := 9) (v := .ref h3) (C := RX9) (T := TX9) (N := 58) hx hb hts xinX9 hown hK hP 0 rfl rfl 37 (by decide) (hts _ wo_584) (fun _ h9 => h9) rfl dX9_meet_97 ?_
        refine lv_iload hx hb dX9_meet_100 (lv_at hl 1 rfl) ?_
        obtain ⟨hi, hwp⟩ := hwp
        refine va_iald hx hb hK hP 3 0 rfl rfl hi dX9_meet_102 ?_
        refine lv_aload_n hx hb dX9_meet_103 rfl (lv_at hl 7 rfl) ?_
        refine va_get (D := G) (ci := 9) (v := .ref h3) (C := RX9) (T := TX9) (N := 58) hx hb hts xinX9 hown hK hP 0 rfl rfl 37 (by decide) (hts _ wo_584) (fun _ h9 => h9) rfl dX9_meet_104 ?_
        refine lv_iload hx hb dX9_meet_107 (lv_at hl 2 rfl) ?_
        obtain ⟨hi, hwp⟩ := hwp
        refine va_iald hx hb hK hP 3 0 rfl rfl hi dX9_meet_109 ?_
        refine lv_isub hx hb dX9_meet_110 ?_
        refine lv_aload_n hx hb dX9_meet_111 rfl (lv_at hl 7 rfl) ?_
        refine va_get (D := G) (ci := 9) (v := .ref h3) (C := RX9) (T := TX9) (N := 58) hx hb hts xinX9 hown hK hP 0 rfl rfl 37 (by decide) (hts _ wo_584) (fun _ h9 => h9) rfl dX9_meet_112 ?_
        refine lv_iload hx hb dX9_meet_115 (lv_at hl 0 rfl) ?_
        obtain ⟨hi, hwp⟩ := hwp
        refine va_iald hx hb hK hP 3 0 rfl rfl hi dX9_meet_117 ?_
        refine lv_aload_n hx hb dX9_meet_118 rfl (lv_at hl 7 rfl) ?_
        refine va_get (D := G) (ci := 9) (v := .ref h3) (C := RX9) (T := TX9) (N := 58) hx hb hts xinX9 hown hK hP 0 rfl rfl 37 (by decide) (hts _ wo_584) (fun _ h9 => h9) rfl dX9_meet_119 ?_
        refine lv_iload hx hb dX9_meet_122 (lv_at hl 2 rfl) ?_
        obtain ⟨hi, hwp⟩ := hwp
        refine va_iald hx hb hK hP 3 0 rfl rfl hi dX9_meet_124 ?_
        refine lv_isub hx hb dX9_meet_125 ?_
        refine lv_imul hx hb dX9_meet_126 ?_
        refine lv_aload_n hx hb dX9_meet_127 rfl (lv_at hl 7 rfl) ?_
        refine va_get (D := G) (ci := 9) (v := .ref h4) (C := RX9) (T := TX9) (N := 58) hx hb hts xinX9 hown hK hP 0 rfl rfl 38 (by decide) (hts _ wo_585) (fun _ h9 => h9) rfl dX9_meet_128 ?_
        refine lv_iload hx hb dX9_meet_131 (lv_at hl 1 rfl) ?_
        obtain ⟨hi, hwp⟩ := hwp
        refine va_iald hx hb hK hP 4 0 rfl rfl hi dX9_meet_133 ?_
        refine lv_aload_n hx hb dX9_meet_134 rfl (lv_at hl 7 rfl) ?_
        refine va_get (D := G) (ci := 9) (v := .ref h4) (C := RX9) (T := TX9) (N := 58) hx hb hts xinX9 hown hK hP 0 rfl rfl 38 (by decide) (hts _ wo_585) (fun _ h9 => h9) rfl dX9_meet_135 ?_
        refine lv_iload hx hb dX9_meet_138 (lv_at hl 2 rfl) ?_
        obtain ⟨hi, hwp⟩ := hwp
        refine va_iald hx hb hK hP 4 0 rfl rfl hi dX9_meet_140 ?_
        refine lv_isub hx hb dX9_meet_141 ?_
        refine lv_aload_n hx hb dX9_meet_142 rfl (lv_at hl 7 rfl) ?_
        refine va_get (D := G) (ci := 9) (v := .ref h4) (C := RX9) (T := TX9) (N := 58) hx hb hts xinX9 hown hK hP 0 rfl rfl 38 (by decide) (hts _ wo_585) (fun _ h9 => h9) rfl dX9_meet_143 ?_
        refine lv_iload hx hb dX9_meet_146 (lv_at hl 0 rfl) ?_
        obtain ⟨hi, hwp⟩ := hwp
        refine va_iald hx hb hK hP 4 0 rfl rfl hi dX9_meet_148 ?_
        refine lv_aload_n hx hb dX9_meet_149 rfl (lv_at hl 7 rfl) ?_
        refine va_get (D := G) (ci := 9) (v := .ref h4) (C := RX9) (T := TX9) (N := 58) hx hb hts xinX9 hown hK hP 0 rfl rfl 38 (by decide) (hts _ wo_585) (fun _ h9 => h9) rfl dX9_meet_150 ?_
        refine lv_iload hx hb dX9_meet_153 (lv_at hl 2 rfl) ?_
        obtain ⟨hi, hwp⟩ := hwp
        refine va_iald hx hb hK hP 4 0 rfl rfl hi dX9_meet_155 ?_
        refine lv_isub hx hb dX9_meet_156 ?_
        refine lv_imul hx hb dX9_meet_157 ?_
        refine lv_iadd hx hb dX9_meet_158 ?_
        refine lv_topi (fun v159 ev159 => ?_)
        replace hwp := hwp v159 ev159
        clear ev159
        refine lv_istore (lv' := [(10, .int v159), (9, .int v94), (8, .int v84), (7, .int v6), (6, .int v29), (5, .int v21), (4, .int v13), (3, .int v6), (0, .ref h0), (1, .int p0), (2, .int p1)]) hx hb dX9_meet_159 hl (by decide) rfl (fun ls hl => ?_)
        refine lv_aload_n hx hb dX9_meet_161 rfl (lv_at hl 8 rfl) ?_
        refine lv_iload hx hb dX9_meet_162 (lv_at hl 3 rfl) ?_
        refine lv_iload hx hb dX9_meet_164 (lv_at hl 2 rfl) ?_
        refine lv_iload hx hb dX9_meet_166 (lv_at hl 1 rfl) ?_
        refine xci (wr := [(h1, aI cI 80 f18), (h2, aI cI 80 f19)]) (va_runV (As := [.int v6, .int v84, .int v94]) (rest := []) ⟨hx, hb, hml, hown, hts⟩ (zX9_side l G cI cJ cZ h0 h3 h4 h1 h2 k0 k1 k2 k3 k4 k5 k6 k7 k8 k9 k10 k11 k12 k13 k14 k15 k16 k17 k18 k19 k20 k21 k22 k23 k24 k25 k26 k27 k28 k29 k30 k31 k32 k33 k34 k35 s.heap.size i0 i1 i2 i3 i4 i5 i6 i7 i8 i9 i10 i11 i12 i13 i14 i15 i16 i17 f20 f21 v6 v84 v94 _ hwp) (cwV 3 hts (xgoodV wo_683 wo_684 wo_685 wo_686 wo_454) rfl rfl rfl (by decide +kernel) ⟨Nat.le_of_ble_eq_true rfl, Nat.le_of_ble_eq_true rfl⟩) (xPreV (q := (RX9, TX9, 58)) (q0 := 0) hK hN hP hD [0, 3, 4] (by decide) rfl rfl rfl) rfl rfl hl.1 rfl (lv_room (Nat.le_of_ble_eq_true rfl)) dX9_meet_168 ⟨Nat.le_of_ble_eq_true rfl, Nat.le_of_ble_eq_true rfl⟩) hP hD hS hA [0, 3, 4] [1, 2] rfl rfl (by decide) (by decide) (fun r168 u168 H locs hwp hP hD hS => ?_)
        replace hP : va_P G vwCl [(h1, aI cI 80 f18), (h2, aI cI 80 f19), (h0, .inr (9, [.int i0, .int i1, .ref h1, .ref h2, .ref k0, .ref k1, .ref k2, .int i2, .ref k3, .int i3, .ref k4, .ref k5, .ref k6, .int i4, .ref k7, .ref k8, .int i5, .ref k9, .ref k10, .ref k11, .int i6, .ref k12, .int i7, .ref k13, .ref k14, .int i8, .int i9, .int i10, .ref k15, .int i11, .ref k16, .ref k17, .ref k18, .ref k19, .ref k20, .ref k21, .ref k22, .ref h3, .ref h4, .ref k23, .ref k24, .ref k25, .ref k26, .ref k27, .ref k28, .int i12, .int i13, .int i14, .int i15, .int i16, .ref k29, .ref k30, .ref k31, .ref k32, .ref k33, .ref k34, .int i17, .ref k35])), (h3, aI cI 20 f20), (h4, aI cI 20 f21)] H := hP
        replace hD : va_D A [(h1, aI cI 80 f18), (h2, aI cI 80 f19), (h0, .inr (9, [.int i0, .int i1, .ref h1, .ref h2, .ref k0, .ref k1, .ref k2, .int i2, .ref k3, .int i3, .ref k4, .ref k5, .ref k6, .int i4, .ref k7, .ref k8, .int i5, .ref k9, .ref k10, .ref k11, .int i6, .ref k12, .int i7, .ref k13, .ref k14, .int i8, .int i9, .int i10, .ref k15, .int i11, .ref k16, .ref k17, .ref k18, .ref k19, .ref k20, .ref k21, .ref k22, .ref h3, .ref h4, .ref k23, .ref k24, .ref k25, .ref k26, .ref k27, .ref k28, .int i12, .int i13, .int i14, .int i15, .int i16, .ref k29, .ref k30, .ref k31, .ref k32, .ref k33, .ref k34, .int i17, .ref k35])), (h3, aI cI 20 f20), (h4, aI cI 20 f21)] := hD
        refine lv_if_ne (tgt := 183) hx hb dX9_meet_171 (by decide) (fun c171 => ?_) (fun c171 => ?_)
        · replace hwp := hwp.1 c171
          refine lv_iconst (v := 0) hx hb dX9_meet_183 (by decide) ?_
          have hP9 : va_P G vwCl [(h0, .inr (9, [.int i0, .int i1, .ref h1, .ref h2, .ref k0, .ref k1, .ref k2, .int i2, .ref k3, .int i3, .ref k4, .ref k5, .ref k6, .int i4, .ref k7, .ref k8, .int i5, .ref k9, .ref k10, .ref k11, .int i6, .ref k12, .int i7, .ref k13, .ref k14, .int i8, .int i9, .int i10, .ref k15, .int i11, .ref k16, .ref k17, .ref k18, .ref k19, .ref k20, .ref k21, .ref k22, .ref h3, .ref h4, .ref k23, .ref k24, .ref k25, .ref k26, .ref k27, .ref k28, .int i12, .int i13, .int i14, .int i15, .int i16, .ref k29, .ref k30, .ref k31, .ref k32, .ref k33, .ref k34, .int i17, .ref k35])), (h1, aI cI 80 f18), (h2, aI cI 80 f19), (h3, aI cI 20 f20), (h4, aI cI 20 f21)] H := hP.sub [2, 0, 1, 3, 4] rfl
          have hD9 : va_D A [(h0, .inr (9, [.int i0, .int i1, .ref h1, .ref h2, .ref k0, .ref k1, .ref k2, .int i2, .ref k3, .int i3, .ref k4, .ref k5, .ref k6, .int i4, .ref k7, .ref k8, .int i5, .ref k9, .ref k10, .ref k11, .int i6, .ref k12, .int i7, .ref k13, .ref k14, .int i8, .int i9, .int i10, .ref k15, .int i11, .ref k16, .ref k17, .ref k18, .ref k19, .ref k20, .ref k21, .ref k22, .ref h3, .ref h4, .ref k23, .ref k24, .ref k25, .ref k26, .ref k27, .ref k28, .int i12, .int i13, .int i14, .int i15, .int i16, .ref k29, .ref k30, .ref k31, .ref k32, .ref k33, .ref k34, .int i17, .ref k35])), (h1, aI cI 80 f18), (h2, aI cI 80 f19), (h3, aI cI 20 f20), (h4, aI cI 20 f21)] := hD.sub [2, 0, 1, 3, 4] (by decide) rfl
          rw [← hQQ]
          exact W.zret (v := 0) hx hb hr rfl (fun t ht hW => ⟨⟨_, (), rfl, hwp, by rw [ht]; exact hP9, hD9⟩, hS.F ht⟩) hS.2.2 dX9_meet_184
        · replace hwp := hwp.2 c171
          refine lv_iload hx hb dX9_meet_174 (lv_at hl 0 rfl) ?_
          refine lv_if_le (tgt := 183) hx hb dX9_meet_176 (by decide) (fun c176 => ?_) (fun c176 => ?_)
          · replace hwp := hwp.1 c176
            refine lv_iconst (v := 0) hx hb dX9_meet_183 (by decide) ?_
            have hP9 : va_P G vwCl [(h0, .inr (9, [.int i0, .int i1, .ref h1, .ref h2, .ref k0, .ref k1, .ref k2, .int i2, .ref k3, .int i3, .ref k4, .ref k5, .ref k6, .int i4, .ref k7, .ref k8, .int i5, .ref k9, .ref k10, .ref k11, .int i6, .ref k12, .int i7, .ref k13, .ref k14, .int i8, .int i9, .int i10, .ref k15, .int i11, .ref k16, .ref k17, .ref k18, .ref k19, .ref k20, .ref k21, .ref k22, .ref h3, .ref h4, .ref k23, .ref k24, .ref k25, .ref k26, .ref k27, .ref k28, .int i12, .int i13, .int i14, .int i15, .int i16, .ref k29, .ref k30, .ref k31, .ref k32, .ref k33, .ref k34, .int i17, .ref k35])), (h1, aI cI 80 f18), (h2, aI cI 80 f19), (h3, aI cI 20 f20), (h4, aI cI 20 f21)] H := hP.sub [2, 0, 1, 3, 4] rfl
            have hD9 : va_D A [(h0, .inr (9, [.int i0, .int i1, .ref h1, .ref h2, .ref k0, .ref k1, .ref k2, .int i2, .ref k3, .int i3, .ref k4, .ref k5, .ref k6, .int i4, .ref k7, .ref k8, .int i5, .ref k9, .ref k10, .ref k11, .int i6, .ref k12, .int i7, .ref k13, .ref k14, .int i8, .int i9, .int i10, .ref k15, .int i11, .ref k16, .ref k17, .ref k18, .ref k19, .ref k20, .ref k21, .ref k22, .ref h3, .ref h4, .ref k23, .ref k24, .ref k25, .ref k26, .ref k27, .ref k28, .int i12, .int i13, .int i14, .int i15, .int i16, .ref k29, .ref k30, .ref k31, .ref k32, .ref k33, .ref k34, .int i17, .ref k35])), (h1, aI cI 80 f18), (h2, aI cI 80 f19), (h3, aI cI 20 f20), (h4, aI cI 20 f21)] := hD.sub [2, 0, 1, 3, 4] (by decide) rfl
            rw [← hQQ]
            exact W.zret (v := 0) hx hb hr rfl (fun t ht hW => ⟨⟨_, (), rfl, hwp, by rw [ht]; exact hP9, hD9⟩, hS.F ht⟩) hS.2.2 dX9_meet_184
          · replace hwp := hwp.2 c176
            refine lv_iconst (v := 1) hx hb dX9_meet_179 (by decide) ?_
            refine lv_goto (tgt := 184) hx hb dX9_meet_180 (by decide) ?_
            have hP9 : va_P G vwCl [(h0, .inr (9, [.int i0, .int i1, .ref h1, .ref h2, .ref k0, .ref k1, .ref k2, .int i2, .ref k3, .int i3, .ref k4, .ref k5, .ref k6, .int i4, .ref k7, .ref k8, .int i5, .ref k9, .ref k10, .ref k11, .int i6, .ref k12, .int i7, .ref k13, .ref k14, .int i8, .int i9, .int i10, .ref k15, .int i11, .ref k16, .ref k17, .ref k18, .ref k19, .ref k20, .ref k21, .ref k22, .ref h3, .ref h4, .ref k23, .ref k24, .ref k25, .ref k26, .ref k27, .ref k28, .int i12, .int i13, .int i14, .int i15, .int i16, .ref k29, .ref k30, .ref k31, .ref k32, .ref k33, .ref k34, .int i17, .ref k35])), (h1, aI cI 80 f18), (h2, aI cI 80 f19), (h3, aI cI 20 f20), (h4, aI cI 20 f21)] H := hP.sub [2, 0, 1, 3, 4] rfl
            have hD9 : va_D A [(h0, .inr (9, [.int i0, .int i1, .ref h1, .ref h2, .ref k0, .ref k1, .ref k2, .int i2, .ref k3, .int i3, .ref k4, .ref k5, .ref k6, .int i4, .ref k7, .ref k8, .int i5, .ref k9, .ref k10, .ref k11, .int i6, .ref k12, .int i7, .ref k13, .ref k14, .int i8, .int i9, .int i10, .ref k15, .int i11, .ref k16, .ref k17, .ref k18, .ref k19, .ref k20, .ref k21, .ref k22, .ref h3, .ref h4, .ref k23, .ref k24, .ref k25, .ref k26, .ref k27, .ref k28, .int i12, .int i13, .int i14, .int i15, .int i16, .ref k29, .ref k30, .ref k31, .ref k32, .ref k33, .ref k34, .int i17, .ref k35])), (h1, aI cI 80 f18), (h2, aI cI 80 f19), (h3, aI cI 20 f20), (h4, aI cI 20 f21)] := hD.sub [2, 0, 1, 3, 4] (by decide) rfl
            rw [← hQQ]
            exact W.zret (v := 1) hx hb hr rfl (fun t ht hW => ⟨⟨_, (), rfl, hwp, by rw [ht]; exact hP9, hD9⟩, hS.F ht⟩) hS.2.2 dX9_meet_184
      · replace hwp := hwp.2 c60
        refine lv_iload_n hx hb dX9_meet_63 rfl (lv_at hl 3 rfl) ?_
        refine lv_iload hx hb dX9_meet_64 (lv_at hl 0 rfl) ?_
        refine lv_icmp_ne (tgt := 73) hx hb dX9_meet_66 (by decide) (fun c66 => ?_) (fun c66 => ?_)
        · replace hwp := hwp.1 c66
          refine lv_iload hx hb dX9_meet_73 (lv_at hl 2 rfl) ?_
          refine lv_istore (lv' := [(7, .int v13), (6, .int v29), (5, .int v21), (4, .int v13), (3, .int v6), (0, .ref h0), (1, .int p0), (2, .int p1)]) hx hb dX9_meet_75 hl (by decide) rfl (fun ls hl => ?_)
          refine lv_iload_n hx hb dX9_meet_77 rfl (lv_at hl 4 rfl) ?_
          refine lv_iload hx hb dX9_meet_78 (lv_at hl 3 rfl) ?_
          refine lv_iadd hx hb dX9_meet_80 ?_
          refine lv_iload hx hb dX9_meet_81 (lv_at hl 0 rfl) ?_
          refine lv_isub hx hb dX9_meet_83 ?_
          refine lv_topi (fun v84 ev84 => ?_)
          replace hwp := hwp v84 ev84
          clear ev84
          refine lv_istore (lv' := [(8, .int v84), (7, .int v13), (6, .int v29), (5, .int v21), (4, .int v13), (3, .int v6), (0, .ref h0), (1, .int p0), (2, .int p1)]) hx hb dX9_meet_84 hl (by decide) rfl (fun ls hl => ?_)
          refine lv_iload hx hb dX9_meet_86 (lv_at hl 3 rfl) ?_
          refine lv_iload hx hb dX9_meet_88 (lv_at hl 2 rfl) ?_
          refine lv_iadd hx hb dX9_meet_90 ?_
          refine lv_iload hx hb dX9_meet_91 (lv_at hl 1 rfl) ?_
          refine lv_isub hx hb dX9_meet_93 ?_
          refine lv_topi (fun v94 ev94 => ?_)
          replace hwp := hwp v94 ev94
          clear ev94
          refine lv_istore (lv' := [(9, .int v94), (8, .int v84), (7, .int v13), (6, .int v29), (5, .int v21), (4, .int v13), (3, .int v6), (0, .ref h0), (1, .int p0), (2, .int p1)]) hx hb dX9_meet_94 hl (by decide) rfl (fun ls hl => ?_)
          refine lv_aload_n hx hb dX9_meet_96 rfl (lv_at hl 7 rfl) ?_
          refine va_get (D := G) (ci := 9) (v := .ref h3) (C := RX9) (T := TX9) (N := 58) hx hb hts xinX9 hown hK hP 0 rfl rfl 37 (by decide) (hts _ wo_584) (fun _ h9 => h9) rfl dX9_meet_97 ?_
          refine lv_iload hx hb dX9_meet_100 (lv_at hl 1 rfl) ?_
          obtain ⟨hi, hwp⟩ := hwp
          refine va_iald hx hb hK hP 3 0 rfl rfl hi dX9_meet_102 ?_
          refine lv_aload_n hx hb dX9_meet_103 rfl (lv_at hl 7 rfl) ?_
          refine va_get (D := G) (ci := 9) (v := .ref h3) (C := RX9) (T := TX9) (N := 58) hx hb hts xinX9 hown hK hP 0 rfl rfl 37 (by decide) (hts _ wo_584) (fun _ h9 => h9) rfl dX9_meet_104 ?_
          refine lv_iload hx hb dX9_meet_107 (lv_at hl 2 rfl) ?_
          obtain ⟨hi, hwp⟩ := hwp
          refine va_iald hx hb hK hP 3 0 rfl rfl hi dX9_meet_109 ?_
          refine lv_isub hx hb dX9_meet_110 ?_
          refine lv_aload_n hx hb dX9_meet_111 rfl (lv_at hl 7 rfl) ?_
          refine va_get (D := G) (ci := 9) (v := .ref h3) (C := RX9) (T := TX9) (N := 58) hx hb hts xinX9 hown hK hP 0 rfl rfl 37 (by decide) (hts _ wo_584) (fun _ h9 => h9) rfl dX9_meet_112 ?_
          refine lv_iload hx hb dX9_meet_115 (lv_at hl 0 rfl) ?_
          obtain ⟨hi, hwp⟩ := hwp
          refine va_iald hx hb hK hP 3 0 rfl rfl hi dX9_meet_117 ?_
          refine lv_aload_n hx hb dX9_meet_118 rfl (lv_at hl 7 rfl) ?_
          refine va_get (D := G) (ci := 9) (v := .ref h3) (C := RX9) (T := TX9) (N := 58) hx hb hts xinX9 hown hK hP 0 rfl rfl 37 (by decide) (hts _ wo_584) (fun _ h9 => h9) rfl dX9_meet_119 ?_
          refine lv_iload hx hb dX9_meet_122 (lv_at hl 2 rfl) ?_
          obtain ⟨hi, hwp⟩ := hwp
          refine va_iald hx hb hK hP 3 0 rfl rfl hi dX9_meet_124 ?_
          refine lv_isub hx hb dX9_meet_125 ?_
          refine lv_imul hx hb dX9_meet_126 ?_
          refine lv_aload_n hx hb dX9_meet_127 rfl (lv_at hl 7 rfl) ?_
          refine va_get (D := G) (ci := 9) (v := .ref h4) (C := RX9) (T := TX9) (N := 58) hx hb hts xinX9 hown hK hP 0 rfl rfl 38 (by decide) (hts _ wo_585) (fun _ h9 => h9) rfl dX9_meet_128 ?_
          refine lv_iload hx hb dX9_meet_131 (lv_at hl 1 rfl) ?_
          obtain ⟨hi, hwp⟩ := hwp
          refine va_iald hx hb hK hP 4 0 rfl rfl hi dX9_meet_133 ?_
          refine lv_aload_n hx hb dX9_meet_134 rfl (lv_at hl 7 rfl) ?_
          refine va_get (D := G) (ci := 9) (v := .ref h4) (C := RX9) (T := TX9) (N := 58) hx hb hts xinX9 hown hK hP 0 rfl rfl 38 (by decide) (hts _ wo_585) (fun _ h9 => h9) rfl dX9_meet_135 ?_
          refine lv_iload hx hb dX9_meet_138 (lv_at hl 2 rfl) ?_
          obtain ⟨hi, hwp⟩ := hwp
          refine va_iald hx hb hK hP 4 0 rfl rfl hi dX9_meet_140 ?_
          refine lv_isub hx hb dX9_meet_141 ?_
          refine lv_aload_n hx hb dX9_meet_142 rfl (lv_at hl 7 rfl) ?_
          refine va_get (D := G) (ci := 9) (v := .ref h4) (C := RX9) (T := TX9) (N := 58) hx hb hts xinX9 hown hK hP 0 rfl rfl 38 (by decide) (hts _ wo_585) (fun _ h9 => h9) rfl dX9_meet_143 ?_
          refine lv_iload hx hb dX9_meet_146 (lv_at hl 0 rfl) ?_
          obtain ⟨hi, hwp⟩ := hwp
          refine va_iald hx hb hK hP 4 0 rfl rfl hi dX9_meet_148 ?_
          refine lv_aload_n hx hb dX9_meet_149 rfl (lv_at hl 7 rfl) ?_
          refine va_get (D := G) (ci := 9) (v := .ref h4) (C := RX9) (T := TX9) (N := 58) hx hb hts xinX9 hown hK hP 0 rfl rfl 38 (by decide) (hts _ wo_585) (fun _ h9 => h9) rfl dX9_meet_150 ?_
          refine lv_iload hx hb dX9_meet_153 (lv_at hl 2 rfl) ?_
          obtain ⟨hi, hwp⟩ := hwp
          refine va_iald hx hb hK hP 4 0 rfl rfl hi dX9_meet_155 ?_
          refine lv_isub hx hb dX9_meet_156 ?_
          refine lv_imul hx hb dX9_meet_157 ?_
          refine lv_iadd hx hb dX9_meet_158 ?_
          refine lv_topi (fun v159 ev159 => ?_)
          replace hwp := hwp v159 ev159
          clear ev159
          refine lv_istore (lv' := [(10, .int v159), (9, .int v94), (8, .int v84), (7, .int v13), (6, .int v29), (5, .int v21), (4, .int v13), (3, .int v6), (0, .ref h0), (1, .int p0), (2, .int p1)]) hx hb dX9_meet_159 hl (by decide) rfl (fun ls hl => ?_)
          refine lv_aload_n hx hb dX9_meet_161 rfl (lv_at hl 8 rfl) ?_
          refine lv_iload hx hb dX9_meet_162 (lv_at hl 3 rfl) ?_
          refine lv_iload hx hb dX9_meet_164 (lv_at hl 2 rfl) ?_
          refine lv_iload hx hb dX9_meet_166 (lv_at hl 1 rfl) ?_
          refine xci (wr := [(h1, aI cI 80 f18), (h2, aI cI 80 f19)]) (va_runV (As := [.int v13, .int v84, .int v94]) (rest := []) ⟨hx, hb, hml, hown, hts⟩ (zX9_side l G cI cJ cZ h0 h3 h4 h1 h2 k0 k1 k2 k3 k4 k5 k6 k7 k8 k9 k10 k11 k12 k13 k14 k15 k16 k17 k18 k19 k20 k21 k22 k23 k24 k25 k26 k27 k28 k29 k30 k31 k32 k33 k34 k35 s.heap.size i0 i1 i2 i3 i4 i5 i6 i7 i8 i9 i10 i11 i12 i13 i14 i15 i16 i17 f20 f21 v13 v84 v94 _ hwp) (cwV 3 hts (xgoodV wo_683 wo_684 wo_685 wo_686 wo_454) rfl rfl rfl (by decide +kernel) ⟨Nat.le_of_ble_eq_true rfl, Nat.le_of_ble_eq_true rfl⟩) (xPreV (q := (RX9, TX9, 58)) (q0 := 0) hK hN hP hD [0, 3, 4] (by decide) rfl rfl rfl) rfl rfl hl.1 rfl (lv_room (Nat.le_of_ble_eq_true rfl)) dX9_meet_168 ⟨Nat.le_of_ble_eq_true rfl, Nat.le_of_ble_eq_true rfl⟩) hP hD hS hA [0, 3, 4] [1, 2] rfl rfl (by decide) (by decide) (fun r168 u168 H locs hwp hP hD hS => ?_)
          replace hP : va_P G vwCl [(h1, aI cI 80 f18), (h2, aI cI 80 f19), (h0, .inr (9, [.int i0, .int i1, .ref h1, .ref h2, .ref k0, .ref k1, .ref k2, .int i2, .ref k3, .int i3, .ref k4, .ref k5, .ref k6, .int i4, .ref k7, .ref k8, .int i5, .ref k9, .ref k10, .ref k11, .int i6, .ref k12, .int i7, .ref k13, .ref k14, .int i8, .int i9, .int i10, .ref k15, .int i11, .ref k16, .ref k17, .ref k18, .ref k19, .ref k20, .ref k21, .ref k22, .ref h3, .ref h4, .ref k23, .ref k24, .ref k25, .ref k26, .ref k27, .ref k28, .int i12, .int i13, .int i14, .int i15, .int i16, .ref k29, .ref k30, .ref k31, .ref k32, .ref k33, .ref k34, .int i17, .ref k35])), (h3, aI cI 20 f20), (h4, aI cI 20 f21)] H := hP
          replace hD : va_D A [(h1, aI cI 80 f18), (h2, aI cI 80 f19), (h0, .inr (9, [.int i0, .int i1, .ref h1, .ref h2, .ref k0, .ref k1, .ref k2, .int i2, .ref k3, .int i3, .ref k4, .ref k5, .ref k6, .int i4, .ref k7, .ref k8, .int i5, .ref k9, .ref k10, .ref k11, .int i6, .ref k12, .int i7, .ref k13, .ref k14, .int i8, .int i9, .int i10, .ref k15, .int i11, .ref k16, .ref k17, .ref k18, .ref k19, .ref k20, .ref k21, .ref k22, .ref h3, .ref h4, .ref k23, .ref k24, .ref k25, .ref k26, .ref k27, .ref k28, .int i12, .int i13, .int i14, .int i15, .int i16, .ref k29, .ref k30, .ref k31, .ref k32, .ref k33, .ref k34, .int i17, .ref k35])), (h3, aI cI 20 f20), (h4, aI cI 20 f21)] := hD
          refine lv_if_ne (tgt := 183) hx hb dX9_meet_171 (by decide) (fun c171 => ?_) (fun c171 => ?_)
          · replace hwp := hwp.1 c171
            refine lv_iconst (v := 0) hx hb dX9_meet_183 (by decide) ?_
            have hP9 : va_P G vwCl [(h0, .inr (9, [.int i0, .int i1, .ref h1, .ref h2, .ref k0, .ref k1, .ref k2, .int i2, .ref k3, .int i3, .ref k4, .ref k5, .ref k6, .int i4, .ref k7, .ref k8, .int i5, .ref k9, .ref k10, .ref k11, .int i6, .ref k12, .int i7, .ref k13, .ref k14, .int i8, .int i9, .int i10, .ref k15, .int i11, .ref k16, .ref k17, .ref k18, .ref k19, .ref k20, .ref k21, .ref k22, .ref h3, .ref h4, .ref k23, .ref k24, .ref k25, .ref k26, .ref k27, .ref k28, .int i12, .int i13, .int i14, .int i15, .int i16, .ref k29, .ref k30, .ref k31, .ref k32, .ref k33, .ref k34, .int i17, .ref k35])), (h1, aI cI 80 f18), (h2, aI cI 80 f19), (h3, aI cI 20 f20), (h4, aI cI 20 f21)] H := hP.sub [2, 0, 1, 3, 4] rfl
            have hD9 : va_D A [(h0, .inr (9, [.int i0, .int i1, .ref h1, .ref h2, .ref k0, .ref k1, .ref k2, .int i2, .ref k3, .int i3, .ref k4, .ref k5, .ref k6, .int i4, .ref k7, .ref k8, .int i5, .ref k9, .ref k10, .ref k11, .int i6, .ref k12, .int i7, .ref k13, .ref k14, .int i8, .int i9, .int i10, .ref k15, .int i11, .ref k16, .ref k17, .ref k18, .ref k19, .ref k20, .ref k21, .ref k22, .ref h3, .ref h4, .ref k23, .ref k24, .ref k25, .ref k26, .ref k27, .ref k28, .int i12, .int i13, .int i14, .int i15, .int i16, .ref k29, .ref k30, .ref k31, .ref k32, .ref k33, .ref k34, .int i17, .ref k35])), (h1, aI cI 80 f18), (h2, aI cI 80 f19), (h3, aI cI 20 f20), (h4, aI cI 20 f21)] := hD.sub [2, 0, 1, 3, 4] (by decide) rfl
            rw [← hQQ]
            exact W.zret (v := 0) hx hb hr rfl (fun t ht hW => ⟨⟨_, (), rfl, hwp, by rw [ht]; exact hP9, hD9⟩, hS.F ht⟩) hS.2.2 dX9_meet_184
          · replace hwp := hwp.2 c171
            refine lv_iload hx hb dX9_meet_174 (lv_at hl 0 rfl) ?_
            refine lv_if_le (tgt := 183) hx hb dX9_meet_176 (by decide) (fun c176 => ?_) (fun c176 => ?_)
            · replace hwp := hwp.1 c176
              refine lv_iconst (v := 0) hx hb dX9_meet_183 (by decide) ?_
              have hP9 : va_P G vwCl [(h0, .inr (9, [.int i0, .int i1, .ref h1, .ref h2, .ref k0, .ref k1, .ref k2, .int i2, .ref k3, .int i3, .ref k4, .ref k5, .ref k6, .int i4, .ref k7, .ref k8, .int i5, .ref k9, .ref k10, .ref k11, .int i6, .ref k12, .int i7, .ref k13, .ref k14, .int i8, .int i9, .int i10, .ref k15, .int i11, .ref k16, .ref k17, .ref k18, .ref k19, .ref k20, .ref k21, .ref k22, .ref h3, .ref h4, .ref k23, .ref k24, .ref k25, .ref k26, .ref k27, .ref k28, .int i12, .int i13, .int i14, .int i15, .int i16, .ref k29, .ref k30, .ref k31, .ref k32, .ref k33, .ref k34, .int i17, .ref k35])), (h1, aI cI 80 f18), (h2, aI cI 80 f19), (h3, aI cI 20 f20), (h4, aI cI 20 f21)] H := hP.sub [2, 0, 1, 3, 4] rfl
              have hD9 : va_D A [(h0, .inr (9, [.int i0, .int i1, .ref h1, .ref h2, .ref k0, .ref k1, .ref k2, .int i2, .ref k3, .int i3, .ref k4, .ref k5, .ref k6, .int i4, .ref k7, .ref k8, .int i5, .ref k9, .ref k10, .ref k11, .int i6, .ref k12, .int i7, .ref k13, .ref k14, .int i8, .int i9, .int i10, .ref k15, .int i11, .ref k16, .ref k17, .ref k18, .ref k19, .ref k20, .ref k21, .ref k22, .ref h3, .ref h4, .ref k23, .ref k24, .ref k25, .ref k26, .ref k27, .ref k28, .int i12, .int i13, .int i14, .int i15, .int i16, .ref k29, .ref k30, .ref k31, .ref k32, .ref k33, .ref k34, .int i17, .ref k35])), (h1, aI cI 80 f18), (h2, aI cI 80 f19), (h3, aI cI 20 f20), (h4, aI cI 20 f21)] := hD.sub [2, 0, 1, 3, 4] (by decide) rfl
              rw [← hQQ]
              exact W.zret (v := 0) hx hb hr rfl (fun t ht hW => ⟨⟨_, (), rfl, hwp, by rw [ht]; exact hP9, hD9⟩, hS.F ht⟩) hS.2.2 dX9_meet_184
            · replace hwp := hwp.2 c176
              refine lv_iconst (v := 1) hx hb dX9_meet_179 (by decide) ?_
              refine lv_goto (tgt := 184) hx hb dX9_meet_180 (by decide) ?_
              have hP9 : va_P G vwCl [(h0, .inr (9, [.int i0, .int i1, .ref h1, .ref h2, .ref k0, .ref k1, .ref k2, .int i2, .ref k3, .int i3, .ref k4, .ref k5, .ref k6, .int i4, .ref k7, .ref k8, .int i5, .ref k9, .ref k10, .ref k11, .int i6, .ref k12, .int i7, .ref k13, .ref k14, .int i8, .int i9, .int i10, .ref k15, .int i11, .ref k16, .ref k17, .ref k18, .ref k19, .ref k20, .ref k21, .ref k22, .ref h3, .ref h4, .ref k23, .ref k24, .ref k25, .ref k26, .ref k27, .ref k28, .int i12, .int i13, .int i14, .int i15, .int i16, .ref k29, .ref k30, .ref k31, .ref k32, .ref k33, .ref k34, .int i17, .ref k35])), (h1, aI cI 80 f18), (h2, aI cI 80 f19), (h3, aI cI 20 f20), (h4, aI cI 20 f21)] H := hP.sub [2, 0, 1, 3, 4] rfl
              have hD9 : va_D A [(h0, .inr (9, [.int i0, .int i1, .ref h1, .ref h2, .ref k0, .ref k1, .ref k2, .int i2, .ref k3, .int i3, .ref k4, .ref k5, .ref k6, .int i4, .ref k7, .ref k8, .int i5, .ref k9, .ref k10, .ref k11, .int i6, .ref k12, .int i7, .ref k13, .ref k14, .int i8, .int i9, .int i10, .ref k15, .int i11, .ref k16, .ref k17, .ref k18, .ref k19, .ref k20, .ref k21, .ref k22, .ref h3, .ref h4, .ref k23, .ref k24, .ref k25, .ref k26, .ref k27, .ref k28, .int i12, .int i13, .int i14, .int i15, .int i16, .ref k29, .ref k30, .ref k31, .ref k32, .ref k33, .ref k34, .int i17, .ref k35])), (h1, aI cI 80 f18), (h2, aI cI 80 f19), (h3, aI cI 20 f20), (h4, aI cI 20 f21)] := hD.sub [2, 0, 1, 3, 4] (by decide) rfl
              rw [← hQQ]
              exact W.zret (v := 1) hx hb hr rfl (fun t ht hW => ⟨⟨_, (), rfl, hwp, by rw [ht]; exact hP9, hD9⟩, hS.F ht⟩) hS.2.2 dX9_meet_184
        · replace hwp := hwp.2 c66
          refine lv_iload_n hx hb dX9_meet_69 rfl (lv_at hl 3 rfl) ?_
          refine lv_goto (tgt := 75) hx hb dX9_meet_70 (by decide) ?_
          refine lv_istore (lv' := [(7, .int v6), (6, .int v29), (5, .int v21), (4, .int v13), (3, .int v6), (0, .ref h0), (1, .int p0), (2, .int p1)]) hx hb dX9_meet_75 hl (by decide) rfl (fun ls hl => ?_)
          refine lv_iload_n hx hb dX9_meet_77 rfl (lv_at hl 4 rfl) ?_
          refine lv_iload hx hb dX9_meet_78 (lv_at hl 3 rfl) ?_
          refine lv_iadd hx hb dX9_meet_80 ?_
          refine lv_iload hx hb dX9_meet_81 (lv_at hl 0 rfl) ?_
          refine lv_isub hx hb dX9_meet_83 ?_
          refine lv_topi (fun v84 ev84 => ?_)
          replace hwp := hwp v84 ev84
          clear ev84
          refine lv_istore (lv' := [(8, .int v84), (7, .int v6), (6, .int v29), (5, .int v21), (4, .int v13), (3, .int v6), (0, .ref h0), (1, .int p0), (2, .int p1)]) hx hb dX9_meet_84 hl (by decide) rfl (fun ls hl => ?_)
          refine lv_iload hx hb dX9_meet_86 (lv_at hl 3 rfl) ?_
          refine lv_iload hx hb dX9_meet_88 (lv_at hl 2 rfl) ?_
          refine lv_iadd hx hb dX9_meet_90 ?_
          refine lv_iload hx hb dX9_meet_91 (lv_at hl 1 rfl) ?_
          refine lv_isub hx hb dX9_meet_93 ?_
          refine lv_topi (fun v94 ev94 => ?_)
          replace hwp := hwp v94 ev94
          clear ev94
          refine lv_istore (lv' := [(9, .int v94), (8, .int v84), (7, .int v6), (6, .int v29), (5, .int v21), (4, .int v13), (3, .int v6), (0, .ref h0), (1, .int p0), (2, .int p1)]) hx hb dX9_meet_94 hl (by decide) rfl (fun ls hl => ?_)
          refine lv_aload_n hx hb dX9_meet_96 rfl (lv_at hl 7 rfl) ?_
          refine va_get (D := G) (ci := 9) (v := .ref h3) (C := RX9) (T := TX9) (N := 58) hx hb hts xinX9 hown hK hP 0 rfl rfl 37 (by decide) (hts _ wo_584) (fun _ h9 => h9) rfl dX9_meet_97 ?_
          refine lv_iload hx hb dX9_meet_100 (lv_at hl 1 rfl) ?_
          obtain ⟨hi, hwp⟩ := hwp
          refine va_iald hx hb hK hP 3 0 rfl rfl hi dX9_meet_102 ?_
          refine lv_aload_n hx hb dX9_meet_103 rfl (lv_at hl 7 rfl) ?_
          refine va_get (D := G) (ci := 9) (v := .ref h3) (C := RX9) (T := TX9) (N := 58) hx hb hts xinX9 hown hK hP 0 rfl rfl 37 (by decide) (hts _ wo_584) (fun _ h9 => h9) rfl dX9_meet_104 ?_
          refine lv_iload hx hb dX9_meet_107 (lv_at hl 2 rfl) ?_
          obtain ⟨hi, hwp⟩ := hwp
          refine va_iald hx hb hK hP 3 0 rfl rfl hi dX9_meet_109 ?_
          refine lv_isub hx hb dX9_meet_110 ?_
          refine lv_aload_n hx hb dX9_meet_111 rfl (lv_at hl 7 rfl) ?_
          refine va_get (D := G) (ci := 9) (v := .ref h3) (C := RX9) (T := TX9) (N := 58) hx hb hts xinX9 hown hK hP 0 rfl rfl 37 (by decide) (hts _ wo_584) (fun _ h9 => h9) rfl dX9_meet_112 ?_
          refine lv_iload hx hb dX9_meet_115 (lv_at hl 0 rfl) ?_
          obtain ⟨hi, hwp⟩ := hwp
          refine va_iald hx hb hK hP 3 0 rfl rfl hi dX9_meet_117 ?_
          refine lv_aload_n hx hb dX9_meet_118 rfl (lv_at hl 7 rfl) ?_
          refine va_get (D := G) (ci := 9) (v := .ref h3) (C := RX9) (T := TX9) (N := 58) hx hb hts xinX9 hown hK hP 0 rfl rfl 37 (by decide) (hts _ wo_584) (fun _ h9 => h9) rfl dX9_meet_119 ?_
          refine lv_iload hx hb dX9_meet_122 (lv_at hl 2 rfl) ?_
          obtain ⟨hi, hwp⟩ := hwp
          refine va_iald hx hb hK hP 3 0 rfl rfl hi dX9_meet_124 ?_
          refine lv_isub hx hb dX9_meet_125 ?_
          refine lv_imul hx hb dX9_meet_126 ?_
          refine lv_aload_n hx hb dX9_meet_127 rfl (lv_at hl 7 rfl) ?_
          refine va_get (D := G) (ci := 9) (v := .ref h4) (C := RX9) (T := TX9) (N := 58) hx hb hts xinX9 hown hK hP 0 rfl rfl 38 (by decide) (hts _ wo_585) (fun _ h9 => h9) rfl dX9_meet_128 ?_
          refine lv_iload hx hb dX9_meet_131 (lv_at hl 1 rfl) ?_
          obtain ⟨hi, hwp⟩ := hwp
          refine va_iald hx hb hK hP 4 0 rfl rfl hi dX9_meet_133 ?_
          refine lv_aload_n hx hb dX9_meet_134 rfl (lv_at hl 7 rfl) ?_
          refine va_get (D := G) (ci := 9) (v := .ref h4) (C := RX9) (T := TX9) (N := 58) hx hb hts xinX9 hown hK hP 0 rfl rfl 38 (by decide) (hts _ wo_585) (fun _ h9 => h9) rfl dX9_meet_135 ?_
          refine lv_iload hx hb dX9_meet_138 (lv_at hl 2 rfl) ?_
          obtain ⟨hi, hwp⟩ := hwp
          refine va_iald hx hb hK hP 4 0 rfl rfl hi dX9_meet_140 ?_
          refine lv_isub hx hb dX9_meet_141 ?_
          refine lv_aload_n hx hb dX9_meet_142 rfl (lv_at hl 7 rfl) ?_
          refine va_get (D := G) (ci := 9) (v := .ref h4) (C := RX9) (T := TX9) (N := 58) hx hb hts xinX9 hown hK hP 0 rfl rfl 38 (by decide) (hts _ wo_585) (fun _ h9 => h9) rfl dX9_meet_143 ?_
          refine lv_iload hx hb dX9_meet_146 (lv_at hl 0 rfl) ?_
          obtain ⟨hi, hwp⟩ := hwp
          refine va_iald hx hb hK hP 4 0 rfl rfl hi dX9_meet_148 ?_
          refine lv_aload_n hx hb dX9_meet_149 rfl (lv_at hl 7 rfl) ?_
          refine va_get (D := G) (ci := 9) (v := .ref h4) (C := RX9) (T := TX9) (N := 58) hx hb hts xinX9 hown hK hP 0 rfl rfl 38 (by decide) (hts _ wo_585) (fun _ h9 => h9) rfl dX9_meet_150 ?_
          refine lv_iload hx hb dX9_meet_153 (lv_at hl 2 rfl) ?_
          obtain ⟨hi, hwp⟩ := hwp
          refine va_iald hx hb hK hP 4 0 rfl rfl hi dX9_meet_155 ?_
          refine lv_isub hx hb dX9_meet_156 ?_
          refine lv_imul hx hb dX9_meet_157 ?_
          refine lv_iadd hx hb dX9_meet_158 ?_
          refine lv_topi (fun v159 ev159 => ?_)
          replace hwp := hwp v159 ev159
          clear ev159
          refine lv_istore (lv' := [(10, .int v159), (9, .int v94), (8, .int v84), (7, .int v6), (6, .int v29), (5, .int v21), (4, .int v13), (3, .int v6), (0, .ref h0), (1, .int p0), (2, .int p1)]) hx hb dX9_meet_159 hl (by decide) rfl (fun ls hl => ?_)
          refine lv_aload_n hx hb dX9_meet_161 rfl (lv_at hl 8 rfl) ?_
          refine lv_iload hx hb dX9_meet_162 (lv_at hl 3 rfl) ?_
          refine lv_iload hx hb dX9_meet_164 (lv_at hl 2 rfl) ?_
          refine lv_iload hx hb dX9_meet_166 (lv_at hl 1 rfl) ?_
          refine xci (wr := [(h1, aI cI 80 f18), (h2, aI cI 80 f19)]) (va_runV (As := [.int v6, .int v84, .int v94]) (rest := []) ⟨hx, hb, hml, hown, hts⟩ (zX9_side l G cI cJ cZ h0 h3 h4 h1 h2 k0 k1 k2 k3 k4 k5 k6 k7 k8 k9 k10 k11 k12 k13 k14 k15 k16 k17 k18 k19 k20 k21 k22 k23 k24 k25 k26 k27 k28 k29 k30 k31 k32 k33 k34 k35 s.heap.size i0 i1 i2 i3 i4 i5 i6 i7 i8 i9 i10 i11 i12 i13 i14 i15 i16 i17 f20 f21 v6 v84 v94 _ hwp) (cwV 3 hts (xgoodV wo_683 wo_684 wo_685 wo_686 wo_454) rfl rfl rfl (by decide +kernel) ⟨Nat.le_of_ble_eq_true rfl, Nat.le_of_ble_eq_true rfl⟩) (xPreV (q := (RX9, TX9, 58)) (q0 := 0) hK hN hP hD [0, 3, 4] (by decide) rfl rfl rfl) rfl rfl hl.1 rfl (lv_room (Nat.le_of_ble_eq_true rfl)) dX9_meet_168 ⟨Nat.le_of_ble_eq_true rfl, Nat.le_of_ble_eq_true rfl⟩) hP hD hS hA [0, 3, 4] [1, 2] rfl rfl (by decide) (by decide) (fun r168 u168 H locs hwp hP hD hS => ?_)
          replace hP : va_P G vwCl [(h1, aI cI 80 f18), (h2, aI cI 80 f19), (h0, .inr (9, [.int i0, .int i1, .ref h1, .ref h2, .ref k0, .ref k1, .ref k2, .int i2, .ref k3, .int i3, .ref k4, .ref k5, .ref k6, .int i4, .ref k7, .ref k8, .int i5, .ref k9, .ref k10, .ref k11, .int i6, .ref k12, .int i7, .ref k13, .ref k14, .int i8, .int i9, .int i10, .ref k15, .int i11, .ref k16, .ref k17, .ref k18, .ref k19, .ref k20, .ref k21, .ref k22, .ref h3, .ref h4, .ref k23, .ref k24, .ref k25, .ref k26, .ref k27, .ref k28, .int i12, .int i13, .int i14, .int i15, .int i16, .ref k29, .ref k30, .ref k31, .ref k32, .ref k33, .ref k34, .int i17, .ref k35])), (h3, aI cI 20 f20), (h4, aI cI 20 f21)] H := hP
          replace hD : va_D A [(h1, aI cI 80 f18), (h2, aI cI 80 f19), (h0, .inr (9, [.int i0, .int i1, .ref h1, .ref h2, .ref k0, .ref k1, .ref k2, .int i2, .ref k3, .int i3, .ref k4, .ref k5, .ref k6, .int i4, .ref k7, .ref k8, .int i5, .ref k9, .ref k10, .ref k11, .int i6, .ref k12, .int i7, .ref k13, .ref k14, .int i8, .int i9, .int i10, .ref k15, .int i11, .ref k16, .ref k17, .ref k18, .ref k19, .ref k20, .ref k21, .ref k22, .ref h3, .ref h4, .ref k23, .ref k24, .ref k25, .ref k26, .ref k27, .ref k28, .int i12, .int i13, .int i14, .int i15, .int i16, .ref k29, .ref k30, .ref k31, .ref k32, .ref k33, .ref k34, .int i17, .ref k35])), (h3, aI cI 20 f20), (h4, aI cI 20 f21)] := hD
          refine lv_if_ne (tgt := 183) hx hb dX9_meet_171 (by decide) (fun c171 => ?_) (fun c171 => ?_)
          · replace hwp := hwp.1 c171
            refine lv_iconst (v := 0) hx hb dX9_meet_183 (by decide) ?_
            have hP9 : va_P G vwCl [(h0, .inr (9, [.int i0, .int i1, .ref h1, .ref h2, .ref k0, .ref k1, .ref k2, .int i2, .ref k3, .int i3, .ref k4, .ref k5, .ref k6, .int i4, .ref k7, .ref k8, .int i5, .ref k9, .ref k10, .ref k11, .int i6, .ref k12, .int i7, .ref k13, .ref k14, .int i8, .int i9, .int i10, .ref k15, .int i11, .ref k16, .ref k17, .ref k18, .ref k19, .ref k20, .ref k21, .ref k22, .ref h3, .ref h4, .ref k23, .ref k24, .ref k25, .ref k26, .ref k27, .ref k28, .int i12, .int i13, .int i14, .int i15, .int i16, .ref k29, .ref k30, .ref k31, .ref k32, .ref k33, .ref k34, .int i17, .ref k35])), (h1, aI cI 80 f18), (h2, aI cI 80 f19), (h3, aI cI 20 f20), (h4, aI cI 20 f21)] H := hP.sub [2, 0, 1, 3, 4] rfl
            have hD9 : va_D A [(h0, .inr (9, [.int i0, .int i1, .ref h1, .ref h2, .ref k0, .ref k1, .ref k2, .int i2, .ref k3, .int i3, .ref k4, .ref k5, .ref k6, .int i4, .ref k7, .ref k8, .int i5, .ref k9, .ref k10, .ref k11, .int i6, .ref k12, .int i7, .ref k13, .ref k14, .int i8, .int i9, .int i10, .ref k15, .int i11, .ref k16, .ref k17, .ref k18, .ref k19, .ref k20, .ref k21, .ref k22, .ref h3, .ref h4, .ref k23, .ref k24, .ref k25, .ref k26, .ref k27, .ref k28, .int i12, .int i13, .int i14, .int i15, .int i16, .ref k29, .ref k30, .ref k31, .ref k32, .ref k33, .ref k34, .int i17, .ref k35])), (h1, aI cI 80 f18), (h2, aI cI 80 f19), (h3, aI cI 20 f20), (h4, aI cI 20 f21)] := hD.sub [2, 0, 1, 3, 4] (by decide) rfl
            rw [← hQQ]
            exact W.zret (v := 0) hx hb hr rfl (fun t ht hW => ⟨⟨_, (), rfl, hwp, by rw [ht]; exact hP9, hD9⟩, hS.F ht⟩) hS.2.2 dX9_meet_184
          · replace hwp := hwp.2 c171
            refine lv_iload hx hb dX9_meet_174 (lv_at hl 0 rfl) ?_
            refine lv_if_le (tgt := 183) hx hb dX9_meet_176 (by decide) (fun c176 => ?_) (fun c176 => ?_)
            · replace hwp := hwp.1 c176
              refine lv_iconst (v := 0) hx hb dX9_meet_183 (by decide) ?_
              have hP9 : va_P G vwCl [(h0, .inr (9, [.int i0, .int i1, .ref h1, .ref h2, .ref k0, .ref k1, .ref k2, .int i2, .ref k3, .int i3, .ref k4, .ref k5, .ref k6, .int i4, .ref k7, .ref k8, .int i5, .ref k9, .ref k10, .ref k11, .int i6, .ref k12, .int i7, .ref k13, .ref k14, .int i8, .int i9, .int i10, .ref k15, .int i11, .ref k16, .ref k17, .ref k18, .ref k19, .ref k20, .ref k21, .ref k22, .ref h3, .ref h4, .ref k23, .ref k24, .ref k25, .ref k26, .ref k27, .ref k28, .int i12, .int i13, .int i14, .int i15, .int i16, .ref k29, .ref k30, .ref k31, .ref k32, .ref k33, .ref k34, .int i17, .ref k35])), (h1, aI cI 80 f18), (h2, aI cI 80 f19), (h3, aI cI 20 f20), (h4, aI cI 20 f21)] H := hP.sub [2, 0, 1, 3, 4] rfl
              have hD9 : va_D A [(h0, .inr (9, [.int i0, .int i1, .ref h1, .ref h2, .ref k0, .ref k1, .ref k2, .int i2, .ref k3, .int i3, .ref k4, .ref k5, .ref k6, .int i4, .ref k7, .ref k8, .int i5, .ref k9, .ref k10, .ref k11, .int i6, .ref k12, .int i7, .ref k13, .ref k14, .int i8, .int i9, .int i10, .ref k15, .int i11, .ref k16, .ref k17, .ref k18, .ref k19, .ref k20, .ref k21, .ref k22, .ref h3, .ref h4, .ref k23, .ref k24, .ref k25, .ref k26, .ref k27, .ref k28, .int i12, .int i13, .int i14, .int i15, .int i16, .ref k29, .ref k30, .ref k31, .ref k32, .ref k33, .ref k34, .int i17, .ref k35])), (h1, aI cI 80 f18), (h2, aI cI 80 f19), (h3, aI cI 20 f20), (h4, aI cI 20 f21)] := hD.sub [2, 0, 1, 3, 4] (by decide) rfl
              rw [← hQQ]
              exact W.zret (v := 0) hx hb hr rfl (fun t ht hW => ⟨⟨_, (), rfl, hwp, by rw [ht]; exact hP9, hD9⟩, hS.F ht⟩) hS.2.2 dX9_meet_184
            · replace hwp := hwp.2 c176
              refine lv_iconst (v := 1) hx hb dX9_meet_179 (by decide) ?_
              refine lv_goto (tgt := 184) hx hb dX9_meet_180 (by decide) ?_
              have hP9 : va_P G vwCl [(h0, .inr (9, [.int i0, .int i1, .ref h1, .ref h2, .ref k0, .ref k1, .ref k2, .int i2, .ref k3, .int i3, .ref k4, .ref k5, .ref k6, .int i4, .ref k7, .ref k8, .int i5, .ref k9, .ref k10, .ref k11, .int i6, .ref k12, .int i7, .ref k13, .ref k14, .int i8, .int i9, .int i10, .ref k15, .int i11, .ref k16, .ref k17, .ref k18, .ref k19, .ref k20, .ref k21, .ref k22, .ref h3, .ref h4, .ref k23, .ref k24, .ref k25, .ref k26, .ref k27, .ref k28, .int i12, .int i13, .int i14, .int i15, .int i16, .ref k29, .ref k30, .ref k31, .ref k32, .ref k33, .ref k34, .int i17, .ref k35])), (h1, aI cI 80 f18), (h2, aI cI 80 f19), (h3, aI cI 20 f20), (h4, aI cI 20 f21)] H := hP.sub [2, 0, 1, 3, 4] rfl
              have hD9 : va_D A [(h0, .inr (9, [.int i0, .int i1, .ref h1, .ref h2, .ref k0, .ref k1, .ref k2, .int i2, .ref k3, .int i3, .ref k4, .ref k5, .ref k6, .int i4, .ref k7, .ref k8, .int i5, .ref k9, .ref k10, .ref k11, .int i6, .ref k12, .int i7, .ref k13, .ref k14, .int i8, .int i9, .int i10, .ref k15, .int i11, .ref k16, .ref k17, .ref k18, .ref k19, .ref k20, .ref k21, .ref k22, .ref h3, .ref h4, .ref k23, .ref k24, .ref k25, .ref k26, .ref k27, .ref k28, .int i12, .int i13, .int i14, .int i15, .int i16, .ref k29, .ref k30, .ref k31, .ref k32, .ref k33, .ref k34, .int i17, .ref k35])), (h1, aI cI 80 f18), (h2, aI cI 80 f19), (h3, aI cI 20 f20), (h4, aI cI 20 f21)] := hD.sub [2, 0, 1, 3, 4] (by decide) rfl
              rw [← hQQ]
              exact W.zret (v := 1) hx hb hr rfl (fun t ht hW => ⟨⟨_, (), rfl, hwp, by rw [ht]; exact hP9, hD9⟩, hS.F ht⟩) hS.2.2 dX9_meet_184
    · replace hwp := hwp.2 c40
      refine lv_iload hx hb dX9_meet_43 (lv_at hl 2 rfl) ?_
      refine lv_iload hx hb dX9_meet_45 (lv_at hl 1 rfl) ?_
      refine lv_icmp_eq (tgt := 57) hx hb dX9_meet_47 (by decide) (fun c47 => ?_) (fun c47 => ?_)
      · replace hwp := hwp.1 c47
        refine lv_iload_n hx hb dX9_meet_57 rfl (lv_at hl 3 rfl) ?_
        refine lv_iload hx hb dX9_meet_58 (lv_at hl 1 rfl) ?_
        refine lv_icmp_eq (tgt := 69) hx hb dX9_meet_60 (by decide) (fun c60 => ?_) (fun c60 => ?_)
        · replace hwp := hwp.1 c60
          refine lv_iload_n hx hb dX9_meet_69 rfl (lv_at hl 3 rfl) ?_
          refine lv_goto (tgt := 75) hx hb dX9_meet_70 (by decide) ?_
          refine lv_istore (lv' := [(7, .int v6), (6, .int v29), (5, .int v21), (4, .int v13), (3, .int v6), (0, .ref h0), (1, .int p0), (2, .int p1)]) hx hb dX9_meet_75 hl (by decide) rfl (fun ls hl => ?_)
          refine lv_iload_n hx hb dX9_meet_77 rfl (lv_at hl 4 rfl) ?_
          refine lv_iload hx hb dX9_meet_78 (lv_at hl 3 rfl) ?_
          refine lv_iadd hx hb dX9_meet_80 ?_
          refine lv_iload hx hb dX9_meet_81 (lv_at hl 0 rfl) ?_
          refine lv_isub hx hb dX9_meet_83 ?_
          refine lv_topi (fun v84 ev84 => ?_)
          replace hwp := hwp v84 ev84
          clear ev84
          refine lv_istore (lv' := [(8, .int v84), (7, .int v6), (6, .int v29), (5, .int v21), (4, .int v13), (3, .int v6), (0, .ref h0), (1, .int p0), (2, .int p1)]) hx hb dX9_meet_84 hl (by decide) rfl (fun ls hl => ?_)
          refine lv_iload hx hb dX9_meet_86 (lv_at hl 3 rfl) ?_
          refine lv_iload hx hb dX9_meet_88 (lv_at hl 2 rfl) ?_
          refine lv_iadd hx hb dX9_meet_90 ?_
          refine lv_iload hx hb dX9_meet_91 (lv_at hl 1 rfl) ?_
          refine lv_isub hx hb dX9_meet_93 ?_
          refine lv_topi (fun v94 ev94 => ?_)
          replace hwp := hwp v94 ev94
          clear ev94
          refine lv_istore (lv' := [(9, .int v94), (8, .int v84), (7, .int v6), (6, .int v29), (5, .int v21), (4, .int v13), (3, .int v6), (0, .ref h0), (1, .int p0), (2, .int p1)]) hx hb dX9_meet_94 hl (by decide) rfl (fun ls hl => ?_)
          refine lv_aload_n hx hb dX9_meet_96 rfl (lv_at hl 7 rfl) ?_
          refine va_get (D := G) (ci := 9) (v := .ref h3) (C := RX9) (T := TX9) (N := 58) hx hb hts xinX9 hown hK hP 0 rfl rfl 37 (by decide) (hts _ wo_584) (fun _ h9 => h9) rfl dX9_meet_97 ?_
          refine lv_iload hx hb dX9_meet_100 (lv_at hl 1 rfl) ?_
          obtain ⟨hi, hwp⟩ := hwp
          refine va_iald hx hb hK hP 3 0 rfl rfl hi dX9_meet_102 ?_
          refine lv_aload_n hx hb dX9_meet_103 rfl (lv_at hl 7 rfl) ?_
          refine va_get (D := G) (ci := 9) (v := .ref h3) (C := RX9) (T := TX9) (N := 58) hx hb hts xinX9 hown hK hP 0 rfl rfl 37 (by decide) (hts _ wo_584) (fun _ h9 => h9) rfl dX9_meet_104 ?_
          refine lv_iload hx hb dX9_meet_107 (lv_at hl 2 rfl) ?_
          obtain ⟨hi, hwp⟩ := hwp
          refine va_iald hx hb hK hP 3 0 rfl rfl hi dX9_meet_109 ?_
          refine lv_isub hx hb dX9_meet_110 ?_
          refine lv_aload_n hx hb dX9_meet_111 rfl (lv_at hl 7 rfl) ?_
          refine va_get (D := G) (ci := 9) (v := .ref h3) (C := RX9) (T := TX9) (N := 58) hx hb hts xinX9 hown hK hP 0 rfl rfl 37 (by decide) (hts _ wo_584) (fun _ h9 => h9) rfl dX9_meet_112 ?_
          refine lv_iload hx hb dX9_meet_115 (lv_at hl 0 rfl) ?_
          obtain ⟨hi, hwp⟩ := hwp
          refine va_iald hx hb hK hP 3 0 rfl rfl hi dX9_meet_117 ?_
          refine lv_aload_n hx hb dX9_meet_118 rfl (lv_at hl 7 rfl) ?_
          refine va_get (D := G) (ci := 9) (v := .ref h3) (C := RX9) (T := TX9) (N := 58) hx hb hts xinX9 hown hK hP 0 rfl rfl 37 (by decide) (hts _ wo_584) (fun _ h9 => h9) rfl dX9_meet_119 ?_
          refine lv_iload hx hb dX9_meet_122 (lv_at hl 2 rfl) ?_
          obtain ⟨hi, hwp⟩ := hwp
          refine va_iald hx hb hK hP 3 0 rfl rfl hi dX9_meet_124 ?_
          refine lv_isub hx hb dX9_meet_125 ?_
          refine lv_imul hx hb dX9_meet_126 ?_
          refine lv_aload_n hx hb dX9_meet_127 rfl (lv_at hl 7 rfl) ?_
          refine va_get (D := G) (ci := 9) (v := .ref h4) (C := RX9) (T := TX9) (N := 58) hx hb hts xinX9 hown hK hP 0 rfl rfl 38 (by decide) (hts _ wo_585) (fun _ h9 => h9) rfl dX9_meet_128 ?_
          refine lv_iload hx hb dX9_meet_131 (lv_at hl 1 rfl) ?_
          obtain ⟨hi, hwp⟩ := hwp
          refine va_iald hx hb hK hP 4 0 rfl rfl hi dX9_meet_133 ?_
          refine lv_aload_n hx hb dX9_meet_134 rfl (lv_at hl 7 rfl) ?_
          refine va_get (D := G) (ci := 9) (v := .ref h4) (C := RX9) (T := TX9) (N := 58) hx hb hts xinX9 hown hK hP 0 rfl rfl 38 (by decide) (hts _ wo_585) (fun _ h9 => h9) rfl dX9_meet_135 ?_
          refine lv_iload hx hb dX9_meet_138 (lv_at hl 2 rfl) ?_
          obtain ⟨hi, hwp⟩ := hwp
          refine va_iald hx hb hK hP 4 0 rfl rfl hi dX9_meet_140 ?_
          refine lv_isub hx hb dX9_meet_141 ?_
          refine lv_aload_n hx hb dX9_meet_142 rfl (lv_at hl 7 rfl) ?_
          refine va_get (D := G) (ci := 9) (v := .ref h4) (C := RX9) (T := TX9) (N := 58) hx hb hts xinX9 hown hK hP 0 rfl rfl 38 (by decide) (hts _ wo_585) (fun _ h9 => h9) rfl dX9_meet_143 ?_
          refine lv_iload hx hb dX9_meet_146 (lv_at hl 0 rfl) ?_
          obtain ⟨hi, hwp⟩ := hwp
          refine va_iald hx hb hK hP 4 0 rfl rfl hi dX9_meet_148 ?_
          refine lv_aload_n hx hb dX9_meet_149 rfl (lv_at hl 7 rfl) ?_
          refine va_get (D := G) (ci := 9) (v := .ref h4) (C := RX9) (T := TX9) (N := 58) hx hb hts xinX9 hown hK hP 0 rfl rfl 38 (by decide) (hts _ wo_585) (fun _ h9 => h9) rfl dX9_meet_150 ?_
          refine lv_iload hx hb dX9_meet_153 (lv_at hl 2 rfl) ?_
          obtain ⟨hi, hwp⟩ := hwp
          refine va_iald hx hb hK hP 4 0 rfl rfl hi dX9_meet_155 ?_
          refine lv_isub hx hb dX9_meet_156 ?_
          refine lv_imul hx hb dX9_meet_157 ?_
          refine lv_iadd hx hb dX9_meet_158 ?_
          refine lv_topi (fun v159 ev159 => ?_)
          replace hwp := hwp v159 ev159
          clear ev159
          refine lv_istore (lv' := [(10, .int v159), (9, .int v94), (8, .int v84), (7, .int v6), (6, .int v29), (5, .int v21), (4, .int v13), (3, .int v6), (0, .ref h0), (1, .int p0), (2, .int p1)]) hx hb dX9_meet_159 hl (by decide) rfl (fun ls hl => ?_)
          refine lv_aload_n hx hb dX9_meet_161 rfl (lv_at hl 8 rfl) ?_
          refine lv_iload hx hb dX9_meet_162 (lv_at hl 3 rfl) ?_
          refine lv_iload hx hb dX9_meet_164 (lv_at hl 2 rfl) ?_
          refine lv_iload hx hb dX9_meet_166 (lv_at hl 1 rfl) ?_
          refine xci (wr := [(h1, aI cI 80 f18), (h2, aI cI 80 f19)]) (va_runV (As := [.int v6, .int v84, .int v94]) (rest := []) ⟨hx, hb, hml, hown, hts⟩ (zX9_side l G cI cJ cZ h0 h3 h4 h1 h2 k0 k1 k2 k3 k4 k5 k6 k7 k8 k9 k10 k11 k12 k13 k14 k15 k16 k17 k18 k19 k20 k21 k22 k23 k24 k25 k26 k27 k28 k29 k30 k31 k32 k33 k34 k35 s.heap.size i0 i1 i2 i3 i4 i5 i6 i7 i8 i9 i10 i11 i12 i13 i14 i15 i16 i17 f20 f21 v6 v84 v94 _ hwp) (cwV 3 hts (xgoodV wo_683 wo_684 wo_685 wo_686 wo_454) rfl rfl rfl (by decide +kernel) ⟨Nat.le_of_ble_eq_true rfl, Nat.le_of_ble_eq_true rfl⟩) (xPreV (q := (RX9, TX9, 58)) (q0 := 0) hK hN hP hD [0, 3, 4] (by decide) rfl rfl rfl) rfl rfl hl.1 rfl (lv_room (Nat.le_of_ble_eq_true rfl)) dX9_meet_168 ⟨Nat.le_of_ble_eq_true rfl, Nat.le_of_ble_eq_true rfl⟩) hP hD hS hA [0, 3, 4] [1, 2] rfl rfl (by decide) (by decide) (fun r168 u168 H locs hwp hP hD hS => ?_)
          replace hP : va_P G vwCl [(h1, aI cI 80 f18), (h2, aI cI 80 f19), (h0, .inr (9, [.int i0, .int i1, .ref h1, .ref h2, .ref k0, .ref k1, .ref k2, .int i2, .ref k3, .int i3, .ref k4, .ref k5, .ref k6, .int i4, .ref k7, .ref k8, .int i5, .ref k9, .ref k10, .ref k11, .int i6, .ref k12, .int i7, .ref k13, .ref k14, .int i8, .int i9, .int i10, .ref k15, .int i11, .ref k16, .ref k17, .ref k18, .ref k19, .ref k20, .ref k21, .ref k22, .ref h3, .ref h4, .ref k23, .ref k24, .ref k25, .ref k26, .ref k27, .ref k28, .int i12, .int i13, .int i14, .int i15, .int i16, .ref k29, .ref k30, .ref k31, .ref k32, .ref k33, .ref k34, .int i17, .ref k35])), (h3, aI cI 20 f20), (h4, aI cI 20 f21)] H := hP
          replace hD : va_D A [(h1, aI cI 80 f18), (h2, aI cI 80 f19), (h0, .inr (9, [.int i0, .int i1, .ref h1, .ref h2, .ref k0, .ref k1, .ref k2, .int i2, .ref k3, .int i3, .ref k4, .ref k5, .ref k6, .int i4, .ref k7, .ref k8, .int i5, .ref k9, .ref k10, .ref k11, .int i6, .ref k12, .int i7, .ref k13, .ref k14, .int i8, .int i9, .int i10, .ref k15, .int i11, .ref k16, .ref k17, .ref k18, .ref k19, .ref k20, .ref k21, .ref k22, .ref h3, .ref h4, .ref k23, .ref k24, .ref k25, .ref k26, .ref k27, .ref k28, .int i12, .int i13, .int i14, .int i15, .int i16, .ref k29, .ref k30, .ref k31, .ref k32, .ref k33, .ref k34, .int i17, .ref k35])), (h3, aI cI 20 f20), (h4, aI cI 20 f21)] := hD
          refine lv_if_ne (tgt := 183) hx hb dX9_meet_171 (by decide) (fun c171 => ?_) (fun c171 => ?_)
          · replace hwp := hwp.1 c171
            refine lv_iconst (v := 0) hx hb dX9_meet_183 (by decide) ?_
            have hP9 : va_P G vwCl [(h0, .inr (9, [.int i0, .int i1, .ref h1, .ref h2, .ref k0, .ref k1, .ref k2, .int i2, .ref k3, .int i3, .ref k4, .ref k5, .ref k6, .int i4, .ref k7, .ref k8, .int i5, .ref k9, .ref k10, .ref k11, .int i6, .ref k12, .int i7, .ref k13, .ref k14, .int i8, .int i9, .int i10, .ref k15, .int i11, .ref k16, .ref k17, .ref k18, .ref k19, .ref k20, .ref k21, .ref k22, .ref h3, .ref h4, .ref k23, .ref k24, .ref k25, .ref k26, .ref k27, .ref k28, .int i12, .int i13, .int i14, .int i15, .int i16, .ref k29, .ref k30, .ref k31, .ref k32, .ref k33, .ref k34, .int i17, .ref k35])), (h1, aI cI 80 f18), (h2, aI cI 80 f19), (h3, aI cI 20 f20), (h4, aI cI 20 f21)] H := hP.sub [2, 0, 1, 3, 4] rfl
            have hD9 : va_D A [(h0, .inr (9, [.int i0, .int i1, .ref h1, .ref h2, .ref k0, .ref k1, .ref k2, .int i2, .ref k3, .int i3, .ref k4, .ref k5, .ref k6, .int i4, .ref k7, .ref k8, .int i5, .ref k9, .ref k10, .ref k11, .int i6, .ref k12, .int i7, .ref k13, .ref k14, .int i8, .int i9, .int i10, .ref k15, .int i11, .ref k16, .ref k17, .ref k18, .ref k19, .ref k20, .ref k21, .ref k22, .ref h3, .ref h4, .ref k23, .ref k24, .ref k25, .ref k26, .ref k27, .ref k28, .int i12, .int i13, .int i14, .int i15, .int i16, .ref k29, .ref k30, .ref k31, .ref k32, .ref k33, .ref k34, .int i17, .ref k35])), (h1, aI cI 80 f18), (h2, aI cI 80 f19), (h3, aI cI 20 f20), (h4, aI cI 20 f21)] := hD.sub [2, 0, 1, 3, 4] (by decide) rfl
            rw [← hQQ]
            exact W.zret (v := 0) hx hb hr rfl (fun t ht hW => ⟨⟨_, (), rfl, hwp, by rw [ht]; exact hP9, hD9⟩, hS.F ht⟩) hS.2.2 dX9_meet_184
          · replace hwp := hwp.2 c171
            refine lv_iload hx hb dX9_meet_174 (lv_at hl 0 rfl) ?_
            refine lv_if_le (tgt := 183) hx hb dX9_meet_176 (by decide) (fun c176 => ?_) (fun c176 => ?_)
            · replace hwp := hwp.1 c176
              refine lv_iconst (v := 0) hx hb dX9_meet_183 (by decide) ?_
              have hP9 : va_P G vwCl [(h0, .inr (9, [.int i0, .int i1, .ref h1, .ref h2, .ref k0, .ref k1, .ref k2, .int i2, .ref k3, .int i3, .ref k4, .ref k5, .ref k6, .int i4, .ref k7, .ref k8, .int i5, .ref k9, .ref k10, .ref k11, .int i6, .ref k12, .int i7, .ref k13, .ref k14, .int i8, .int i9, .int i10, .ref k15, .int i11, .ref k16, .ref k17, .ref k18, .ref k19, .ref k20, .ref k21, .ref k22, .ref h3, .ref h4, .ref k23, .ref k24, .ref k25, .ref k26, .ref k27, .ref k28, .int i12, .int i13, .int i14, .int i15, .int i16, .ref k29, .ref k30, .ref k31, .ref k32, .ref k33, .ref k34, .int i17, .ref k35])), (h1, aI cI 80 f18), (h2, aI cI 80 f19), (h3, aI cI 20 f20), (h4, aI cI 20 f21)] H := hP.sub [2, 0, 1, 3, 4] rfl
              have hD9 : va_D A [(h0, .inr (9, [.int i0, .int i1, .ref h1, .ref h2, .ref k0, .ref k1, .ref k2, .int i2, .ref k3, .int i3, .ref k4, .ref k5, .ref k6, .int i4, .ref k7, .ref k8, .int i5, .ref k9, .ref k10, .ref k11, .int i6, .ref k12, .int i7, .ref k13, .ref k14, .int i8, .int i9, .int i10, .ref k15, .int i11, .ref k16, .ref k17, .ref k18, .ref k19, .ref k20, .ref k21, .ref k22, .ref h3, .ref h4, .ref k23, .ref k24, .ref k25, .ref k26, .ref k27, .ref k28, .int i12, .int i13, .int i14, .int i15, .int i16, .ref k29, .ref k30, .ref k31, .ref k32, .ref k33, .ref k34, .int i17, .ref k35])), (h1, aI cI 80 f18), (h2, aI cI 80 f19), (h3, aI cI 20 f20), (h4, aI cI 20 f21)] := hD.sub [2, 0, 1, 3, 4] (by decide) rfl
              rw [← hQQ]
              exact W.zret (v := 0) hx hb hr rfl (fun t ht hW => ⟨⟨_, (), rfl, hwp, by rw [ht]; exact hP9, hD9⟩, hS.F ht⟩) hS.2.2 dX9_meet_184
            · replace hwp := hwp.2 c176
              refine lv_iconst (v := 1) hx hb dX9_meet_179 (by decide) ?_
              refine lv_goto (tgt := 184) hx hb dX9_meet_180 (by decide) ?_
              have hP9 : va_P G vwCl [(h0, .inr (9, [.int i0, .int i1, .ref h1, .ref h2, .ref k0, .ref k1, .ref k2, .int i2, .ref k3, .int i3, .ref k4, .ref k5, .ref k6, .int i4, .ref k7, .ref k8, .int i5, .ref k9, .ref k10, .ref k11, .int i6, .ref k12, .int i7, .ref k13, .ref k14, .int i8, .int i9, .int i10, .ref k15, .int i11, .ref k16, .ref k17, .ref k18, .ref k19, .ref k20, .ref k21, .ref k22, .ref h3, .ref h4, .ref k23, .ref k24, .ref k25, .ref k26, .ref k27, .ref k28, .int i12, .int i13, .int i14, .int i15, .int i16, .ref k29, .ref k30, .ref k31, .ref k32, .ref k33, .ref k34, .int i17, .ref k35])), (h1, aI cI 80 f18), (h2, aI cI 80 f19), (h3, aI cI 20 f20), (h4, aI cI 20 f21)] H := hP.sub [2, 0, 1, 3, 4] rfl
              have hD9 : va_D A [(h0, .inr (9, [.int i0, .int i1, .ref h1, .ref h2, .ref k0, .ref k1, .ref k2, .int i2, .ref k3, .int i3, .ref k4, .ref k5, .ref k6, .int i4, .ref k7, .ref k8, .int i5, .ref k9, .ref k10, .ref k11, .int i6, .ref k12, .int i7, .ref k13, .ref k14, .int i8, .int i9, .int i10, .ref k15, .int i11, .ref k16, .ref k17, .ref k18, .ref k19, .ref k20, .ref k21, .ref k22, .ref h3, .ref h4, .ref k23, .ref k24, .ref k25, .ref k26, .ref k27, .ref k28, .int i12, .int i13, .int i14, .int i15, .int i16, .ref k29, .ref k30, .ref k31, .ref k32, .ref k33, .ref k34, .int i17, .ref k35])), (h1, aI cI 80 f18), (h2, aI cI 80 f19), (h3, aI cI 20 f20), (h4, aI cI 20 f21)] := hD.sub [2, 0, 1, 3, 4] (by decide) rfl
              rw [← hQQ]
              exact W.zret (v := 1) hx hb hr rfl (fun t ht hW => ⟨⟨_, (), rfl, hwp, by rw [ht]; exact hP9, hD9⟩, hS.F ht⟩) hS.2.2 dX9_meet_184
        · replace hwp := hwp.2 c60
          refine lv_iload_n hx hb dX9_meet_63 rfl (lv_at hl 3 rfl) ?_
          refine lv_iload hx hb dX9_meet_64 (lv_at hl 0 rfl) ?_
          refine lv_icmp_ne (tgt := 73) hx hb dX9_meet_66 (by decide) (fun c66 => ?_) (fun c66 => ?_)
          · replace hwp := hwp.1 c66
            refine lv_iload hx hb dX9_meet_73 (lv_at hl 2 rfl) ?_
            refine lv_istore (lv' := [(7, .int v13), (6, .int v29), (5, .int v21), (4, .int v13), (3, .int v6), (0, .ref h0), (1, .int p0), (2, .int p1)]) hx hb dX9_meet_75 hl (by decide) rfl (fun ls hl => ?_)
            refine lv_iload_n hx hb dX9_meet_77 rfl (lv_at hl 4 rfl) ?_
            refine lv_iload hx hb dX9_meet_78 (lv_at hl 3 rfl) ?_
            refine lv_iadd hx hb dX9_meet_80 ?_
            refine lv_iload hx hb dX9_meet_81 (lv_at hl 0 rfl) ?_
            refine lv_isub hx hb dX9_meet_83 ?_
            refine lv_topi (fun v84 ev84 => ?_)
            replace hwp := hwp v84 ev84
            clear ev84
            refine lv_istore (lv' := [(8, .int v84), (7, .int v13), (6, .int v29), (5, .int v21), (4, .int v13), (3, .int v6), (0, .ref h0), (1, .int p0), (2, .int p1)]) hx hb dX9_meet_84 hl (by decide) rfl (fun ls hl => ?_)
            refine lv_iload hx hb dX9_meet_86 (lv_at hl 3 rfl) ?_
            refine lv_iload hx hb dX9_meet_88 (lv_at hl 2 rfl) ?_
            refine lv_iadd hx hb dX9_meet_90 ?_
            refine lv_iload hx hb dX9_meet_91 (lv_at hl 1 rfl) ?_
            refine lv_isub hx hb dX9_meet_93 ?_
            refine lv_topi (fun v94 ev94 => ?_)
            replace hwp := hwp v94 ev94
            clear ev94
            refine lv_istore (lv' := [(9, .int v94), (8, .int v84), (7, .int v13), (6, .int v29), (5, .int v21), (4, .int v13), (3, .int v6), (0, .ref h0), (1, .int p0), (2, .int p1)]) hx hb dX9_meet_94 hl (by decide) rfl (fun ls hl => ?_)
            refine lv_aload_n hx hb dX9_meet_96 rfl (lv_at hl 7 rfl) ?_
            refine va_get (D := G) (ci := 9) (v := .ref h3) (C := RX9) (T := TX9) (N := 58) hx hb hts xinX9 hown hK hP 0 rfl rfl 37 (by decide) (hts _ wo_584) (fun _ h9 => h9) rfl dX9_meet_97 ?_
            refine lv_iload hx hb dX9_meet_100 (lv_at hl 1 rfl) ?_
            obtain ⟨hi, hwp⟩ := hwp
            refine va_iald hx hb hK hP 3 0 rfl rfl hi dX9_meet_102 ?_
            refine lv_aload_n hx hb dX9_meet_103 rfl (lv_at hl 7 rfl) ?_
            refine va_get (D := G) (ci := 9) (v := .ref h3) (C := RX9) (T := TX9) (N := 58) hx hb hts xinX9 hown hK hP 0 rfl rfl 37 (by decide) (hts _ wo_584) (fun _ h9 => h9) rfl dX9_meet_104 ?_
            refine lv_iload hx hb dX9_meet_107 (lv_at hl 2 rfl) ?_
            obtain ⟨hi, hwp⟩ := hwp
            refine va_iald hx hb hK hP 3 0 rfl rfl hi dX9_meet_109 ?_
            refine lv_isub hx hb dX9_meet_110 ?_
            refine lv_aload_n hx hb dX9_meet_111 rfl (lv_at hl 7 rfl) ?_
            refine va_get (D := G) (ci := 9) (v := .ref h3) (C := RX9) (T := TX9) (N := 58) hx hb hts xinX9 hown hK hP 0 rfl rfl 37 (by decide) (hts _ wo_584) (fun _ h9 => h9) rfl dX9_meet_112 ?_
            refine lv_iload hx hb dX9_meet_115 (lv_at hl 0 rfl) ?_
            obtain ⟨hi, hwp⟩ := hwp
            refine va_iald hx hb hK hP 3 0 rfl rfl hi dX9_meet_117 ?_
            refine lv_aload_n hx hb dX9_meet_118 rfl (lv_at hl 7 rfl) ?_
            refine va_get (D := G) (ci := 9) (v := .ref h3) (C := RX9) (T := TX9) (N := 58) hx hb hts xinX9 hown hK hP 0 rfl rfl 37 (by decide) (hts _ wo_584) (fun _ h9 => h9) rfl dX9_meet_119 ?_
            refine lv_iload hx hb dX9_meet_122 (lv_at hl 2 rfl) ?_
            obtain ⟨hi, hwp⟩ := hwp
            refine va_iald hx hb hK hP 3 0 rfl rfl hi dX9_meet_124 ?_
            refine lv_isub hx hb dX9_meet_125 ?_
            refine lv_imul hx hb dX9_meet_126 ?_
            refine lv_aload_n hx hb dX9_meet_127 rfl (lv_at hl 7 rfl) ?_
            refine va_get (D := G) (ci := 9) (v := .ref h4) (C := RX9) (T := TX9) (N := 58) hx hb hts xinX9 hown hK hP 0 rfl rfl 38 (by decide) (hts _ wo_585) (fun _ h9 => h9) rfl dX9_meet_128 ?_
            refine lv_iload hx hb dX9_meet_131 (lv_at hl 1 rfl) ?_
            obtain ⟨hi, hwp⟩ := hwp
            refine va_iald hx hb hK hP 4 0 rfl rfl hi dX9_meet_133 ?_
            refine lv_aload_n hx hb dX9_meet_134 rfl (lv_at hl 7 rfl) ?_
            refine va_get (D := G) (ci := 9) (v := .ref h4) (C := RX9) (T := TX9) (N := 58) hx hb hts xinX9 hown hK hP 0 rfl rfl 38 (by decide) (hts _ wo_585) (fun _ h9 => h9) rfl dX9_meet_135 ?_
            refine lv_iload hx hb dX9_meet_138 (lv_at hl 2 rfl) ?_
            obtain ⟨hi, hwp⟩ := hwp
            refine va_iald hx hb hK hP 4 0 rfl rfl hi dX9_meet_140 ?_
            refine lv_isub hx hb dX9_meet_141 ?_
            refine lv_aload_n hx hb dX9_meet_142 rfl (lv_at hl 7 rfl) ?_
            refine va_get (D := G) (ci := 9) (v := .ref h4) (C := RX9) (T := TX9) (N := 58) hx hb hts xinX9 hown hK hP 0 rfl rfl 38 (by decide) (hts _ wo_585) (fun _ h9 => h9) rfl dX9_meet_143 ?_
            refine lv_iload hx hb dX9_meet_146 (lv_at hl 0 rfl) ?_
            obtain ⟨hi, hwp⟩ := hwp
            refine va_iald hx hb hK hP 4 0 rfl rfl hi dX9_meet_148 ?_
            refine lv_aload_n hx hb dX9_meet_149 rfl (lv_at hl 7 rfl) ?_
            refine va_get (D := G) (ci := 9) (v := .ref h4) (C := RX9) (T := TX9) (N := 58) hx hb hts xinX9 hown hK hP 0 rfl rfl 38 (by decide) (hts _ wo_585) (fun _ h9 => h9) rfl dX9_meet_150 ?_
            refine lv_iload hx hb dX9_meet_153 (lv_at hl 2 rfl) ?_
            obtain ⟨hi, hwp⟩ := hwp
            refine va_iald hx hb hK hP 4 0 rfl rfl hi dX9_meet_155 ?_
            refine lv_isub hx hb dX9_meet_156 ?_
            refine lv_imul hx hb dX9_meet_157 ?_
            refine lv_iadd hx hb dX9_meet_158 ?_
            refine lv_topi (fun v159 ev159 => ?_)
            replace hwp := hwp v159 ev159
            clear ev159
            refine lv_istore (lv' := [(10, .int v159), (9, .int v94), (8, .int v84), (7, .int v13), (6, .int v29), (5, .int v21), (4, .int v13), (3, .int v6), (0, .ref h0), (1, .int p0), (2, .int p1)]) hx hb dX9_meet_159 hl (by decide) rfl (fun ls hl => ?_)
            refine lv_aload_n hx hb dX9_meet_161 rfl (lv_at hl 8 rfl) ?_
            refine lv_iload hx hb dX9_meet_162 (lv_at hl 3 rfl) ?_
            refine lv_iload hx hb dX9_meet_164 (lv_at hl 2 rfl) ?_
            refine lv_iload hx hb dX9_meet_166 (lv_at hl 1 rfl) ?_
            refine xci (wr := [(h1, aI cI 80 f18), (h2, aI cI 80 f19)]) (va_runV (As := [.int v13, .int v84, .int v94]) (rest := []) ⟨hx, hb, hml, hown, hts⟩ (zX9_side l G cI cJ cZ h0 h3 h4 h1 h2 k0 k1 k2 k3 k4 k5 k6 k7 k8 k9 k10 k11 k12 k13 k14 k15 k16 k17 k18 k19 k20 k21 k22 k23 k24 k25 k26 k27 k28 k29 k30 k31 k32 k33 k34 k35 s.heap.size i0 i1 i2 i3 i4 i5 i6 i7 i8 i9 i10 i11 i12 i13 i14 i15 i16 i17 f20 f21 v13 v84 v94 _ hwp) (cwV 3 hts (xgoodV wo_683 wo_684 wo_685 wo_686 wo_454) rfl rfl rfl (by decide +kernel) ⟨Nat.le_of_ble_eq_true rfl, Nat.le_of_ble_eq_true rfl⟩) (xPreV (q := (RX9, TX9, 58)) (q0 := 0) hK hN hP hD [0, 3, 4] (by decide) rfl rfl rfl) rfl rfl hl.1 rfl (lv_room (Nat.le_of_ble_eq_true rfl)) dX9_meet_168 ⟨Nat.le_of_ble_eq_true rfl, Nat.le_of_ble_eq_true rfl⟩) hP hD hS hA [0, 3, 4] [1, 2] rfl rfl (by decide) (by decide) (fun r168 u168 H locs hwp hP hD hS => ?_)
            replace hP : va_P G vwCl [(h1, aI cI 80 f18), (h2, aI cI 80 f19), (h0, .inr (9, [.int i0, .int i1, .ref h1, .ref h2, .ref k0, .ref k1, .ref k2, .int i2, .ref k3, .int i3, .ref k4, .ref k5, .ref k6, .int i4, .ref k7, .ref k8, .int i5, .ref k9, .ref k10, .ref k11, .int i6, .ref k12, .int i7, .ref k13, .ref k14, .int i8, .int i9, .int i10, .ref k15, .int i11, .ref k16, .ref k17, .ref k18, .ref k19, .ref k20, .ref k21, .ref k22, .ref h3, .ref h4, .ref k23, .ref k24, .ref k25, .ref k26, .ref k27, .ref k28, .int i12, .int i13, .int i14, .int i15, .int i16, .ref k29, .ref k30, .ref k31, .ref k32, .ref k33, .ref k34, .int i17, .ref k35])), (h3, aI cI 20 f20), (h4, aI cI 20 f21)] H := hP
            replace hD : va_D A [(h1, aI cI 80 f18), (h2, aI cI 80 f19), (h0, .inr (9, [.int i0, .int i1, .ref h1, .ref h2, .ref k0, .ref k1, .ref k2, .int i2, .ref k3, .int i3, .ref k4, .ref k5, .ref k6, .int i4, .ref k7, .ref k8, .int i5, .ref k9, .ref k10, .ref k11, .int i6, .ref k12, .int i7, .ref k13, .ref k14, .int i8, .int i9, .int i10, .ref k15, .int i11, .ref k16, .ref k17, .ref k18, .ref k19, .ref k20, .ref k21, .ref k22, .ref h3, .ref h4, .ref k23, .ref k24, .ref k25, .ref k26, .ref k27, .ref k28, .int i12, .int i13, .int i14, .int i15, .int i16, .ref k29, .ref k30, .ref k31, .ref k32, .ref k33, .ref k34, .int i17, .ref k35])), (h3, aI cI 20 f20), (h4, aI cI 20 f21)] := hD
            refine lv_if_ne (tgt := 183) hx hb dX9_meet_171 (by decide) (fun c171 => ?_) (fun c171 => ?_)
            · replace hwp := hwp.1 c171
              refine lv_iconst (v := 0) hx hb dX9_meet_183 (by decide) ?_
              have hP9 : va_P G vwCl [(h0, .inr (9, [.int i0, .int i1, .ref h1, .ref h2, .ref k0, .ref k1, .ref k2, .int i2, .ref k3, .int i3, .ref k4, .ref k5, .ref k6, .int i4, .ref k7, .ref k8, .int i5, .ref k9, .ref k10, .ref k11, .int i6, .ref k12, .int i7, .ref k13, .ref k14, .int i8, .int i9, .int i10, .ref k15, .int i11, .ref k16, .ref k17, .ref k18, .ref k19, .ref k20, .ref k21, .ref k22, .ref h3, .ref h4, .ref k23, .ref k24, .ref k25, .ref k26, .ref k27, .ref k28, .int i12, .int i13, .int i14, .int i15, .int i16, .ref k29, .ref k30, .ref k31, .ref k32, .ref k33, .ref k34, .int i17, .ref k35])), (h1, aI cI 80 f18), (h2, aI cI 80 f19), (h3, aI cI 20 f20), (h4, aI cI 20 f21)] H := hP.sub [2, 0, 1, 3, 4] rfl
              have hD9 : va_D A [(h0, .inr (9, [.int i0, .int i1, .ref h1, .ref h2, .ref k0, .ref k1, .ref k2, .int i2, .ref k3, .int i3, .ref k4, .ref k5, .ref k6, .int i4, .ref k7, .ref k8, .int i5, .ref k9, .ref k10, .ref k11, .int i6, .ref k12, .int i7, .ref k13, .ref k14, .int i8, .int i9, .int i10, .ref k15, .int i11, .ref k16, .ref k17, .ref k18, .ref k19, .ref k20, .ref k21, .ref k22, .ref h3, .ref h4, .ref k23, .ref k24, .ref k25, .ref k26, .ref k27, .ref k28, .int i12, .int i13, .int i14, .int i15, .int i16, .ref k29, .ref k30, .ref k31, .ref k32, .ref k33, .ref k34, .int i17, .ref k35])), (h1, aI cI 80 f18), (h2, aI cI 80 f19), (h3, aI cI 20 f20), (h4, aI cI 20 f21)] := hD.sub [2, 0, 1, 3, 4] (by decide) rfl
              rw [← hQQ]
              exact W.zret (v := 0) hx hb hr rfl (fun t ht hW => ⟨⟨_, (), rfl, hwp, by rw [ht]; exact hP9, hD9⟩, hS.F ht⟩) hS.2.2 dX9_meet_184
            · replace hwp := hwp.2 c171
              refine lv_iload hx hb dX9_meet_174 (lv_at hl 0 rfl) ?_
              refine lv_if_le (tgt := 183) hx hb dX9_meet_176 (by decide) (fun c176 => ?_) (fun c176 => ?_)
              · replace hwp := hwp.1 c176
                refine lv_iconst (v := 0) hx hb dX9_meet_183 (by decide) ?_
                have hP9 : va_P G vwCl [(h0, .inr (9, [.int i0, .int i1, .ref h1, .ref h2, .ref k0, .ref k1, .ref k2, .int i2, .ref k3, .int i3, .ref k4, .ref k5, .ref k6, .int i4, .ref k7, .ref k8, .int i5, .ref k9, .ref k10, .ref k11, .int i6, .ref k12, .int i7, .ref k13, .ref k14, .int i8, .int i9, .int i10, .ref k15, .int i11, .ref k16, .ref k17, .ref k18, .ref k19, .ref k20, .ref k21, .ref k22, .ref h3, .ref h4, .ref k23, .ref k24, .ref k25, .ref k26, .ref k27, .ref k28, .int i12, .int i13, .int i14, .int i15, .int i16, .ref k29, .ref k30, .ref k31, .ref k32, .ref k33, .ref k34, .int i17, .ref k35])), (h1, aI cI 80 f18), (h2, aI cI 80 f19), (h3, aI cI 20 f20), (h4, aI cI 20 f21)] H := hP.sub [2, 0, 1, 3, 4] rfl
                have hD9 : va_D A [(h0, .inr (9, [.int i0, .int i1, .ref h1, .ref h2, .ref k0, .ref k1, .ref k2, .int i2, .ref k3, .int i3, .ref k4, .ref k5, .ref k6, .int i4, .ref k7, .ref k8, .int i5, .ref k9, .ref k10, .ref k11, .int i6, .ref k12, .int i7, .ref k13, .ref k14, .int i8, .int i9, .int i10, .ref k15, .int i11, .ref k16, .ref k17, .ref k18, .ref k19, .ref k20, .ref k21, .ref k22, .ref h3, .ref h4, .ref k23, .ref k24, .ref k25, .ref k26, .ref k27, .ref k28, .int i12, .int i13, .int i14, .int i15, .int i16, .ref k29, .ref k30, .ref k31, .ref k32, .ref k33, .ref k34, .int i17, .ref k35])), (h1, aI cI 80 f18), (h2, aI cI 80 f19), (h3, aI cI 20 f20), (h4, aI cI 20 f21)] := hD.sub [2, 0, 1, 3, 4] (by decide) rfl
                rw [← hQQ]
                exact W.zret (v := 0) hx hb hr rfl (fun t ht hW => ⟨⟨_, (), rfl, hwp, by rw [ht]; exact hP9, hD9⟩, hS.F ht⟩) hS.2.2 dX9_meet_184
              · replace hwp := hwp.2 c176
                refine lv_iconst (v := 1) hx hb dX9_meet_179 (by decide) ?_
                refine lv_goto (tgt := 184) hx hb dX9_meet_180 (by decide) ?_
                have hP9 : va_P G vwCl [(h0, .inr (9, [.int i0, .int i1, .ref h1, .ref h2, .ref k0, .ref k1, .ref k2, .int i2, .ref k3, .int i3, .ref k4, .ref k5, .ref k6, .int i4, .ref k7, .ref k8, .int i5, .ref k9, .ref k10, .ref k11, .int i6, .ref k12, .int i7, .ref k13, .ref k14, .int i8, .int i9, .int i10, .ref k15, .int i11, .ref k16, .ref k17, .ref k18, .ref k19, .ref k20, .ref k21, .ref k22, .ref h3, .ref h4, .ref k23, .ref k24, .ref k25, .ref k26, .ref k27, .ref k28, .int i12, .int i13, .int i14, .int i15, .int i16, .ref k29, .ref k30, .ref k31, .ref k32, .ref k33, .ref k34, .int i17, .ref k35])), (h1, aI cI 80 f18), (h2, aI cI 80 f19), (h3, aI cI 20 f20), (h4, aI cI 20 f21)] H := hP.sub [2, 0, 1, 3, 4] rfl
                have hD9 : va_D A [(h0, .inr (9, [.int i0, .int i1, .ref h1, .ref h2, .ref k0, .ref k1, .ref k2, .int i2, .ref k3, .int i3, .ref k4, .ref k5, .ref k6, .int i4, .ref k7, .ref k8, .int i5, .ref k9, .ref k10, .ref k11, .int i6, .ref k12, .int i7, .ref k13, .ref k14, .int i8, .int i9, .int i10, .ref k15, .int i11, .ref k16, .ref k17, .ref k18, .ref k19, .ref k20, .ref k21, .ref k22, .ref h3, .ref h4, .ref k23, .ref k24, .ref k25, .ref k26, .ref k27, .ref k28, .int i12, .int i13, .int i14, .int i15, .int i16, .ref k29, .ref k30, .ref k31, .ref k32, .ref k33, .ref k34, .int i17, .ref k35])), (h1, aI cI 80 f18), (h2, aI cI 80 f19), (h3, aI cI 20 f20), (h4, aI cI 20 f21)] := hD.sub [2, 0, 1, 3, 4] (by decide) rfl
                rw [← hQQ]
                exact W.zret (v := 1) hx hb hr rfl (fun t ht hW => ⟨⟨_, (), rfl, hwp, by rw [ht]; exact hP9, hD9⟩, hS.F ht⟩) hS.2.2 dX9_meet_184
          · replace hwp := hwp.2 c66
            refine lv_iload_n hx hb dX9_meet_69 rfl (lv_at hl 3 rfl) ?_
            refine lv_goto (tgt := 75) hx hb dX9_meet_70 (by decide) ?_
            refine lv_istore (lv' := [(7, .int v6), (6, .int v29), (5, .int v21), (4, .int v13), (3, .int v6), (0, .ref h0), (1, .int p0), (2, .int p1)]) hx hb dX9_meet_75 hl (by decide) rfl (fun ls hl => ?_)
            refine lv_iload_n hx hb dX9_meet_77 rfl (lv_at hl 4 rfl) ?_
            refine lv_iload hx hb dX9_meet_78 (lv_at hl 3 rfl) ?_
            refine lv_iadd hx hb dX9_meet_80 ?_
            refine lv_iload hx hb dX9_meet_81 (lv_at hl 0 rfl) ?_
            refine lv_isub hx hb dX9_meet_83 ?_
            refine lv_topi (fun v84 ev84 => ?_)
            replace hwp := hwp v84 ev84
            clear ev84
            refine lv_istore (lv' := [(8, .int v84), (7, .int v6), (6, .int v29), (5, .int v21), (4, .int v13), (3, .int v6), (0, .ref h0), (1, .int p0), (2, .int p1)]) hx hb dX9_meet_84 hl (by decide) rfl (fun ls hl => ?_)
            refine lv_iload hx hb dX9_meet_86 (lv_at hl 3 rfl) ?_
            refine lv_iload hx hb dX9_meet_88 (lv_at hl 2 rfl) ?_
            refine lv_iadd hx hb dX9_meet_90 ?_
            refine lv_iload hx hb dX9_meet_91 (lv_at hl 1 rfl) ?_
            refine lv_isub hx hb dX9_meet_93 ?_
            refine lv_topi (fun v94 ev94 => ?_)
            replace hwp := hwp v94 ev94
            clear ev94
            refine lv_istore (lv' := [(9, .int v94), (8, .int v84), (7, .int v6), (6, .int v29), (5, .int v21), (4, .int v13), (3, .int v6), (0, .ref h0), (1, .int p0), (2, .int p1)]) hx hb dX9_meet_94 hl (by decide) rfl (fun ls hl => ?_)
            refine lv_aload_n hx hb dX9_meet_96 rfl (lv_at hl 7 rfl) ?_
            refine va_get (D := G) (ci := 9) (v := .ref h3) (C := RX9) (T := TX9) (N := 58) hx hb hts xinX9 hown hK hP 0 rfl rfl 37 (by decide) (hts _ wo_584) (fun _ h9 => h9) rfl dX9_meet_97 ?_
            refine lv_iload hx hb dX9_meet_100 (lv_at hl 1 rfl) ?_
            obtain ⟨hi, hwp⟩ := hwp
            refine va_iald hx hb hK hP 3 0 rfl rfl hi dX9_meet_102 ?_
            refine lv_aload_n hx hb dX9_meet_103 rfl (lv_at hl 7 rfl) ?_
            refine va_get (D := G) (ci := 9) (v := .ref h3) (C := RX9) (T := TX9) (N := 58) hx hb hts xinX9 hown hK hP 0 rfl rfl 37 (by decide) (hts _ wo_584) (fun _ h9 => h9) rfl dX9_meet_104 ?_
            refine lv_iload hx hb dX9_meet_107 (lv_at hl 2 rfl) ?_
            obtain ⟨hi, hwp⟩ := hwp
            refine va_iald hx hb hK hP 3 0 rfl rfl hi dX9_meet_109 ?_
            refine lv_isub hx hb dX9_meet_110 ?_
            refine lv_aload_n hx hb dX9_meet_111 rfl (lv_at hl 7 rfl) ?_
            refine va_get (D := G) (ci := 9) (v := .ref h3) (C := RX9) (T := TX9) (N := 58) hx hb hts xinX9 hown hK hP 0 rfl rfl 37 (by decide) (hts _ wo_584) (fun _ h9 => h9) rfl dX9_meet_112 ?_
            refine lv_iload hx hb dX9_meet_115 (lv_at hl 0 rfl) ?_
            obtain ⟨hi, hwp⟩ := hwp
            refine va_iald hx hb hK hP 3 0 rfl rfl hi dX9_meet_117 ?_
            refine lv_aload_n hx hb dX9_meet_118 rfl (lv_at hl 7 rfl) ?_
            refine va_get (D := G) (ci := 9) (v := .ref h3) (C := RX9) (T := TX9) (N := 58) hx hb hts xinX9 hown hK hP 0 rfl rfl 37 (by decide) (hts _ wo_584) (fun _ h9 => h9) rfl dX9_meet_119 ?_
            refine lv_iload hx hb dX9_meet_122 (lv_at hl 2 rfl) ?_
            obtain ⟨hi, hwp⟩ := hwp
            refine va_iald hx hb hK hP 3 0 rfl rfl hi dX9_meet_124 ?_
            refine lv_isub hx hb dX9_meet_125 ?_
            refine lv_imul hx hb dX9_meet_126 ?_
            refine lv_aload_n hx hb dX9_meet_127 rfl (lv_at hl 7 rfl) ?_
            refine va_get (D := G) (ci := 9) (v := .ref h4) (C := RX9) (T := TX9) (N := 58) hx hb hts xinX9 hown hK hP 0 rfl rfl 38 (by decide) (hts _ wo_585) (fun _ h9 => h9) rfl dX9_meet_128 ?_
            refine lv_iload hx hb dX9_meet_131 (lv_at hl 1 rfl) ?_
            obtain ⟨hi, hwp⟩ := hwp
            refine va_iald hx hb hK hP 4 0 rfl rfl hi dX9_meet_133 ?_
            refine lv_aload_n hx hb dX9_meet_134 rfl (lv_at hl 7 rfl) ?_
            refine va_get (D := G) (ci := 9) (v := .ref h4) (C := RX9) (T := TX9) (N := 58) hx hb hts xinX9 hown hK hP 0 rfl rfl 38 (by decide) (hts _ wo_585) (fun _ h9 => h9) rfl dX9_meet_135 ?_
            refine lv_iload hx hb dX9_meet_138 (lv_at hl 2 rfl) ?_
            obtain ⟨hi, hwp⟩ := hwp
            refine va_iald hx hb hK hP 4 0 rfl rfl hi dX9_meet_140 ?_
            refine lv_isub hx hb dX9_meet_141 ?_
            refine lv_aload_n hx hb dX9_meet_142 rfl (lv_at hl 7 rfl) ?_
            refine va_get (D := G) (ci := 9) (v := .ref h4) (C := RX9) (T := TX9) (N := 58) hx hb hts xinX9 hown hK hP 0 rfl rfl 38 (by decide) (hts _ wo_585) (fun _ h9 => h9) rfl dX9_meet_143 ?_
            refine lv_iload hx hb dX9_meet_146 (lv_at hl 0 rfl) ?_
            obtain ⟨hi, hwp⟩ := hwp
            refine va_iald hx hb hK hP 4 0 rfl rfl hi dX9_meet_148 ?_
            refine lv_aload_n hx hb dX9_meet_149 rfl (lv_at hl 7 rfl) ?_
            refine va_get (D := G) (ci := 9) (v := .ref h4) (C := RX9) (T := TX9) (N := 58) hx hb hts xinX9 hown hK hP 0 rfl rfl 38 (by decide) (hts _ wo_585) (fun _ h9 => h9) rfl dX9_meet_150 ?_
            refine lv_iload hx hb dX9_meet_153 (lv_at hl 2 rfl) ?_
            obtain ⟨hi, hwp⟩ := hwp
            refine va_iald hx hb hK hP 4 0 rfl rfl hi dX9_meet_155 ?_
            refine lv_isub hx hb dX9_meet_156 ?_
            refine lv_imul hx hb dX9_meet_157 ?_
            refine lv_iadd hx hb dX9_meet_158 ?_
            refine lv_topi (fun v159 ev159 => ?_)
            replace hwp := hwp v159 ev159
            clear ev159
            refine lv_istore (lv' := [(10, .int v159), (9, .int v94), (8, .int v84), (7, .int v6), (6, .int v29), (5, .int v21), (4, .int v13), (3, .int v6), (0, .ref h0), (1, .int p0), (2, .int p1)]) hx hb dX9_meet_159 hl (by decide) rfl (fun ls hl => ?_)
            refine lv_aload_n hx hb dX9_meet_161 rfl (lv_at hl 8 rfl) ?_
            refine lv_iload hx hb dX9_meet_162 (lv_at hl 3 rfl) ?_
            refine lv_iload hx hb dX9_meet_164 (lv_at hl 2 rfl) ?_
            refine lv_iload hx hb dX9_meet_166 (lv_at hl 1 rfl) ?_
            refine xci (wr := [(h1, aI cI 80 f18), (h2, aI cI 80 f19)]) (va_runV (As := [.int v6, .int v84, .int v94]) (rest := []) ⟨hx, hb, hml, hown, hts⟩ (zX9_side l G cI cJ cZ h0 h3 h4 h1 h2 k0 k1 k2 k3 k4 k5 k6 k7 k8 k9 k10 k11 k12 k13 k14 k15 k16 k17 k18 k19 k20 k21 k22 k23 k24 k25 k26 k27 k28 k29 k30 k31 k32 k33 k34 k35 s.heap.size i0 i1 i2 i3 i4 i5 i6 i7 i8 i9 i10 i11 i12 i13 i14 i15 i16 i17 f20 f21 v6 v84 v94 _ hwp) (cwV 3 hts (xgoodV wo_683 wo_684 wo_685 wo_686 wo_454) rfl rfl rfl (by decide +kernel) ⟨Nat.le_of_ble_eq_true rfl, Nat.le_of_ble_eq_true rfl⟩) (xPreV (q := (RX9, TX9, 58)) (q0 := 0) hK hN hP hD [0, 3, 4] (by decide) rfl rfl rfl) rfl rfl hl.1 rfl (lv_room (Nat.le_of_ble_eq_true rfl)) dX9_meet_168 ⟨Nat.le_of_ble_eq_true rfl, Nat.le_of_ble_eq_true rfl⟩) hP hD hS hA [0, 3, 4] [1, 2] rfl rfl (by decide) (by decide) (fun r168 u168 H locs hwp hP hD hS => ?_)
            replace hP : va_P G vwCl [(h1, aI cI 80 f18), (h2, aI cI 80 f19), (h0, .inr (9, [.int i0, .int i1, .ref h1, .ref h2, .ref k0, .ref k1, .ref k2, .int i2, .ref k3, .int i3, .ref k4, .ref k5, .ref k6, .int i4, .ref k7, .ref k8, .int i5, .ref k9, .ref k10, .ref k11, .int i6, .ref k12, .int i7, .ref k13, .ref k14, .int i8, .int i9, .int i10, .ref k15, .int i11, .ref k16, .ref k17, .ref k18, .ref k19, .ref k20, .ref k21, .ref k22, .ref h3, .ref h4, .ref k23, .ref k24, .ref k25, .ref k26, .ref k27, .ref k28, .int i12, .int i13, .int i14, .int i15, .int i16, .ref k29, .ref k30, .ref k31, .ref k32, .ref k33, .ref k34, .int i17, .ref k35])), (h3, aI cI 20 f20), (h4, aI cI 20 f21)] H := hP
            replace hD : va_D A [(h1, aI cI 80 f18), (h2, aI cI 80 f19), (h0, .inr (9, [.int i0, .int i1, .ref h1, .ref h2, .ref k0, .ref k1, .ref k2, .int i2, .ref k3, .int i3, .ref k4, .ref k5, .ref k6, .int i4, .ref k7, .ref k8, .int i5, .ref k9, .ref k10, .ref k11, .int i6, .ref k12, .int i7, .ref k13, .ref k14, .int i8, .int i9, .int i10, .ref k15, .int i11, .ref k16, .ref k17, .ref k18, .ref k19, .ref k20, .ref k21, .ref k22, .ref h3, .ref h4, .ref k23, .ref k24, .ref k25, .ref k26, .ref k27, .ref k28, .int i12, .int i13, .int i14, .int i15, .int i16, .ref k29, .ref k30, .ref k31, .ref k32, .ref k33, .ref k34, .int i17, .ref k35])), (h3, aI cI 20 f20), (h4, aI cI 20 f21)] := hD
            refine lv_if_ne (tgt := 183) hx hb dX9_meet_171 (by decide) (fun c171 => ?_) (fun c171 => ?_)
            · replace hwp := hwp.1 c171
              refine lv_iconst (v := 0) hx hb dX9_meet_183 (by decide) ?_
              have hP9 : va_P G vwCl [(h0, .inr (9, [.int i0, .int i1, .ref h1, .ref h2, .ref k0, .ref k1, .ref k2, .int i2, .ref k3, .int i3, .ref k4, .ref k5, .ref k6, .int i4, .ref k7, .ref k8, .int i5, .ref k9, .ref k10, .ref k11, .int i6, .ref k12, .int i7, .ref k13, .ref k14, .int i8, .int i9, .int i10, .ref k15, .int i11, .ref k16, .ref k17, .ref k18, .ref k19, .ref k20, .ref k21, .ref k22, .ref h3, .ref h4, .ref k23, .ref k24, .ref k25, .ref k26, .ref k27, .ref k28, .int i12, .int i13, .int i14, .int i15, .int i16, .ref k29, .ref k30, .ref k31, .ref k32, .ref k33, .ref k34, .int i17, .ref k35])), (h1, aI cI 80 f18), (h2, aI cI 80 f19), (h3, aI cI 20 f20), (h4, aI cI 20 f21)] H := hP.sub [2, 0, 1, 3, 4] rfl
              have hD9 : va_D A [(h0, .inr (9, [.int i0, .int i1, .ref h1, .ref h2, .ref k0, .ref k1, .ref k2, .int i2, .ref k3, .int i3, .ref k4, .ref k5, .ref k6, .int i4, .ref k7, .ref k8, .int i5, .ref k9, .ref k10, .ref k11, .int i6, .ref k12, .int i7, .ref k13, .ref k14, .int i8, .int i9, .int i10, .ref k15, .int i11, .ref k16, .ref k17, .ref k18, .ref k19, .ref k20, .ref k21, .ref k22, .ref h3, .ref h4, .ref k23, .ref k24, .ref k25, .ref k26, .ref k27, .ref k28, .int i12, .int i13, .int i14, .int i15, .int i16, .ref k29, .ref k30, .ref k31, .ref k32, .ref k33, .ref k34, .int i17, .ref k35])), (h1, aI cI 80 f18), (h2, aI cI 80 f19), (h3, aI cI 20 f20), (h4, aI cI 20 f21)] := hD.sub [2, 0, 1, 3, 4] (by decide) rfl
              rw [← hQQ]
              exact W.zret (v := 0) hx hb hr rfl (fun t ht hW => ⟨⟨_, (), rfl, hwp, by rw [ht]; exact hP9, hD9⟩, hS.F ht⟩) hS.2.2 dX9_meet_184
            · replace hwp := hwp.2 c171
              refine lv_iload hx hb dX9_meet_174 (lv_at hl 0 rfl) ?_
              refine lv_if_le (tgt := 183) hx hb dX9_meet_176 (by decide) (fun c176 => ?_) (fun c176 => ?_)
              · replace hwp := hwp.1 c176
                refine lv_iconst (v := 0) hx hb dX9_meet_183 (by decide) ?_
                have hP9 : va_P G vwCl [(h0, .inr (9, [.int i0, .int i1, .ref h1, .ref h2, .ref k0, .ref k1, .ref k2, .int i2, .ref k3, .int i3, .ref k4, .ref k5, .ref k6, .int i4, .ref k7, .ref k8, .int i5, .ref k9, .ref k10, .ref k11, .int i6, .ref k12, .int i7, .ref k13, .ref k14, .int i8, .int i9, .int i10, .ref k15, .int i11, .ref k16, .ref k17, .ref k18, .ref k19, .ref k20, .ref k21, .ref k22, .ref h3, .ref h4, .ref k23, .ref k24, .ref k25, .ref k26, .ref k27, .ref k28, .int i12, .int i13, .int i14, .int i15, .int i16, .ref k29, .ref k30, .ref k31, .ref k32, .ref k33, .ref k34, .int i17, .ref k35])), (h1, aI cI 80 f18), (h2, aI cI 80 f19), (h3, aI cI 20 f20), (h4, aI cI 20 f21)] H := hP.sub [2, 0, 1, 3, 4] rfl
                have hD9 : va_D A [(h0, .inr (9, [.int i0, .int i1, .ref h1, .ref h2, .ref k0, .ref k1, .ref k2, .int i2, .ref k3, .int i3, .ref k4, .ref k5, .ref k6, .int i4, .ref k7, .ref k8, .int i5, .ref k9, .ref k10, .ref k11, .int i6, .ref k12, .int i7, .ref k13, .ref k14, .int i8, .int i9, .int i10, .ref k15, .int i11, .ref k16, .ref k17, .ref k18, .ref k19, .ref k20, .ref k21, .ref k22, .ref h3, .ref h4, .ref k23, .ref k24, .ref k25, .ref k26, .ref k27, .ref k28, .int i12, .int i13, .int i14, .int i15, .int i16, .ref k29, .ref k30, .ref k31, .ref k32, .ref k33, .ref k34, .int i17, .ref k35])), (h1, aI cI 80 f18), (h2, aI cI 80 f19), (h3, aI cI 20 f20), (h4, aI cI 20 f21)] := hD.sub [2, 0, 1, 3, 4] (by decide) rfl
                rw [← hQQ]
                exact W.zret (v := 0) hx hb hr rfl (fun t ht hW => ⟨⟨_, (), rfl, hwp, by rw [ht]; exact hP9, hD9⟩, hS.F ht⟩) hS.2.2 dX9_meet_184
              · replace hwp := hwp.2 c176
                refine lv_iconst (v := 1) hx hb dX9_meet_179 (by decide) ?_
                refine lv_goto (tgt := 184) hx hb dX9_meet_180 (by decide) ?_
                have hP9 : va_P G vwCl [(h0, .inr (9, [.int i0, .int i1, .ref h1, .ref h2, .ref k0, .ref k1, .ref k2, .int i2, .ref k3, .int i3, .ref k4, .ref k5, .ref k6, .int i4, .ref k7, .ref k8, .int i5, .ref k9, .ref k10, .ref k11, .int i6, .ref k12, .int i7, .ref k13, .ref k14, .int i8, .int i9, .int i10, .ref k15, .int i11, .ref k16, .ref k17, .ref k18, .ref k19, .ref k20, .ref k21, .ref k22, .ref h3, .ref h4, .ref k23, .ref k24, .ref k25, .ref k26, .ref k27, .ref k28, .int i12, .int i13, .int i14, .int i15, .int i16, .ref k29, .ref k30, .ref k31, .ref k32, .ref k33, .ref k34, .int i17, .ref k35])), (h1, aI cI 80 f18), (h2, aI cI 80 f19), (h3, aI cI 20 f20), (h4, aI cI 20 f21)] H := hP.sub [2, 0, 1, 3, 4] rfl
                have hD9 : va_D A [(h0, .inr (9, [.int i0, .int i1, .ref h1, .ref h2, .ref k0, .ref k1, .ref k2, .int i2, .ref k3, .int i3, .ref k4, .ref k5, .ref k6, .int i4, .ref k7, .ref k8, .int i5, .ref k9, .ref k10, .ref k11, .int i6, .ref k12, .int i7, .ref k13, .ref k14, .int i8, .int i9, .int i10, .ref k15, .int i11, .ref k16, .ref k17, .ref k18, .ref k19, .ref k20, .ref k21, .ref k22, .ref h3, .ref h4, .ref k23, .ref k24, .ref k25, .ref k26, .ref k27, .ref k28, .int i12, .int i13, .int i14, .int i15, .int i16, .ref k29, .ref k30, .ref k31, .ref k32, .ref k33, .ref k34, .int i17, .ref k35])), (h1, aI cI 80 f18), (h2, aI cI 80 f19), (h3, aI cI 20 f20), (h4, aI cI 20 f21)] := hD.sub [2, 0, 1, 3, 4] (by decide) rfl
                rw [← hQQ]
                exact W.zret (v := 1) hx hb hr rfl (fun t ht hW => ⟨⟨_, (), rfl, hwp, by rw [ht]; exact hP9, hD9⟩, hS.F ht⟩) hS.2.2 dX9_meet_184
      · replace hwp := hwp.2 c47
        refine lv_iload hx hb dX9_meet_50 (lv_at hl 2 rfl) ?_
        refine lv_iload hx hb dX9_meet_52 (lv_at hl 0 rfl) ?_
        refine lv_icmp_ne (tgt := 185) hx hb dX9_meet_54 (by decide) (fun c54 => ?_) (fun c54 => ?_)
        · replace hwp := hwp.1 c54
          refine lv_aload_n hx hb dX9_meet_185 rfl (lv_at hl 4 rfl) ?_
          refine lv_iload_n hx hb dX9_meet_186 rfl (lv_at hl 3 rfl) ?_
          refine lv_iload hx hb dX9_meet_187 (lv_at hl 2 rfl) ?_
          refine lv_iload hx hb dX9_meet_189 (lv_at hl 1 rfl) ?_
          refine xci (wr := [(h1, aI cI 80 f18), (h2, aI cI 80 f19)]) (va_runV (As := [.int v6, .int v13, .int v21]) (rest := []) ⟨hx, hb, hml, hown, hts⟩ (zX9_isWithin l G cI cJ cZ h0 h3 h4 h1 h2 k0 k1 k2 k3 k4 k5 k6 k7 k8 k9 k10 k11 k12 k13 k14 k15 k16 k17 k18 k19 k20 k21 k22 k23 k24 k25 k26 k27 k28 k29 k30 k31 k32 k33 k34 k35 s.heap.size i0 i1 i2 i3 i4 i5 i6 i7 i8 i9 i10 i11 i12 i13 i14 i15 i16 i17 f20 f21 v6 v13 v21 _ hwp) (cwV 3 hts (xgoodV wo_687 wo_688 wo_689 wo_690 wo_454) rfl rfl rfl (by decide +kernel) ⟨Nat.le_of_ble_eq_true rfl, Nat.le_of_ble_eq_true rfl⟩) (xPreV (q := (RX9, TX9, 58)) (q0 := 0) hK hN hP hD [0, 3, 4] (by decide) rfl rfl rfl) rfl rfl hl.1 rfl (lv_room (Nat.le_of_ble_eq_true rfl)) dX9_meet_191 ⟨Nat.le_of_ble_eq_true rfl, Nat.le_of_ble_eq_true rfl⟩) hP hD hS hA [0, 3, 4] [1, 2] rfl rfl (by decide) (by decide) (fun r191 u191 H locs hwp hP hD hS => ?_)
          replace hP : va_P G vwCl [(h1, aI cI 80 f18), (h2, aI cI 80 f19), (h0, .inr (9, [.int i0, .int i1, .ref h1, .ref h2, .ref k0, .ref k1, .ref k2, .int i2, .ref k3, .int i3, .ref k4, .ref k5, .ref k6, .int i4, .ref k7, .ref k8, .int i5, .ref k9, .ref k10, .ref k11, .int i6, .ref k12, .int i7, .ref k13, .ref k14, .int i8, .int i9, .int i10, .ref k15, .int i11, .ref k16, .ref k17, .ref k18, .ref k19, .ref k20, .ref k21, .ref k22, .ref h3, .ref h4, .ref k23, .ref k24, .ref k25, .ref k26, .ref k27, .ref k28, .int i12, .int i13, .int i14, .int i15, .int i16, .ref k29, .ref k30, .ref k31, .ref k32, .ref k33, .ref k34, .int i17, .ref k35])), (h3, aI cI 20 f20), (h4, aI cI 20 f21)] H := hP
          replace hD : va_D A [(h1, aI cI 80 f18), (h2, aI cI 80 f19), (h0, .inr (9, [.int i0, .int i1, .ref h1, .ref h2, .ref k0, .ref k1, .ref k2, .int i2, .ref k3, .int i3, .ref k4, .ref k5, .ref k6, .int i4, .ref k7, .ref k8, .int i5, .ref k9, .ref k10, .ref k11, .int i6, .ref k12, .int i7, .ref k13, .ref k14, .int i8, .int i9, .int i10, .ref k15, .int i11, .ref k16, .ref k17, .ref k18, .ref k19, .ref k20, .ref k21, .ref k22, .ref h3, .ref h4, .ref k23, .ref k24, .ref k25, .ref k26, .ref k27, .ref k28, .int i12, .int i13, .int i14, .int i15, .int i16, .ref k29, .ref k30, .ref k31, .ref k32, .ref k33, .ref k34, .int i17, .ref k35])), (h3, aI cI 20 f20), (h4, aI cI 20 f21)] := hD
          refine lv_if_ne (tgt := 234) hx hb dX9_meet_194 (by decide) (fun c194 => ?_) (fun c194 => ?_)
          · replace hwp := hwp.1 c194
            refine lv_iconst (v := 1) hx hb dX9_meet_234 (by decide) ?_
            have hP9 : va_P G vwCl [(h0, .inr (9, [.int i0, .int i1, .ref h1, .ref h2, .ref k0, .ref k1, .ref k2, .int i2, .ref k3, .int i3, .ref k4, .ref k5, .ref k6, .int i4, .ref k7, .ref k8, .int i5, .ref k9, .ref k10, .ref k11, .int i6, .ref k12, .int i7, .ref k13, .ref k14, .int i8, .int i9, .int i10, .ref k15, .int i11, .ref k16, .ref k17, .ref k18, .ref k19, .ref k20, .ref k21, .ref k22, .ref h3, .ref h4, .ref k23, .ref k24, .ref k25, .ref k26, .ref k27, .ref k28, .int i12, .int i13, .int i14, .int i15, .int i16, .ref k29, .ref k30, .ref k31, .ref k32, .ref k33, .ref k34, .int i17, .ref k35])), (h1, aI cI 80 f18), (h2, aI cI 80 f19), (h3, aI cI 20 f20), (h4, aI cI 20 f21)] H := hP.sub [2, 0, 1, 3, 4] rfl
            have hD9 : va_D A [(h0, .inr (9, [.int i0, .int i1, .ref h1, .ref h2, .ref k0, .ref k1, .ref k2, .int i2, .ref k3, .int i3, .ref k4, .ref k5, .ref k6, .int i4, .ref k7, .ref k8, .int i5, .ref k9, .ref k10, .ref k11, .int i6, .ref k12, .int i7, .ref k13, .ref k14, .int i8, .int i9, .int i10, .ref k15, .int i11, .ref k16, .ref k17, .ref k18, .ref k19, .ref k20, .ref k21, .ref k22, .ref h3, .ref h4, .ref k23, .ref k24, .ref k25, .ref k26, .ref k27, .ref k28, .int i12, .int i13, .int i14, .int i15, .int i16, .ref k29, .ref k30, .ref k31, .ref k32, .ref k33, .ref k34, .int i17, .ref k35])), (h1, aI cI 80 f18), (h2, aI cI 80 f19), (h3, aI cI 20 f20), (h4, aI cI 20 f21)] := hD.sub [2, 0, 1, 3, 4] (by decide) rfl
            rw [← hQQ]
            exact W.zret (v := 1) hx hb hr rfl (fun t ht hW => ⟨⟨_, (), rfl, hwp, by rw [ht]; exact hP9, hD9⟩, hS.F ht⟩) hS.2.2 dX9_meet_235
          · replace hwp := hwp.2 c194
            refine lv_aload_n hx hb dX9_meet_197 rfl (lv_at hl 4 rfl) ?_
            refine lv_iload_n hx hb dX9_meet_198 rfl (lv_at hl 3 rfl) ?_
            refine lv_iload hx hb dX9_meet_199 (lv_at hl 2 rfl) ?_
            refine lv_iload hx hb dX9_meet_201 (lv_at hl 0 rfl) ?_
            refine xci (wr := [(h1, aI cI 80 f18), (h2, aI cI 80 f19)]) (va_runV (As := [.int v6, .int v13, .int v29]) (rest := []) ⟨hx, hb, hml, hown, hts⟩ (zX9_isWithin l G cI cJ cZ h0 h3 h4 h1 h2 k0 k1 k2 k3 k4 k5 k6 k7 k8 k9 k10 k11 k12 k13 k14 k15 k16 k17 k18 k19 k20 k21 k22 k23 k24 k25 k26 k27 k28 k29 k30 k31 k32 k33 k34 k35 H.size i0 i1 i2 i3 i4 i5 i6 i7 i8 i9 i10 i11 i12 i13 i14 i15 i16 i17 f20 f21 v6 v13 v29 _ hwp) (cwV 3 hts (xgoodV wo_687 wo_688 wo_689 wo_690 wo_454) rfl rfl rfl (by decide +kernel) ⟨Nat.le_of_ble_eq_true rfl, Nat.le_of_ble_eq_true rfl⟩) (xPreV (q := (RX9, TX9, 58)) (q0 := 2) hK hN hP hD [2, 3, 4] (by decide) rfl rfl rfl) rfl rfl hl.1 rfl (lv_room (Nat.le_of_ble_eq_true rfl)) dX9_meet_203 ⟨Nat.le_of_ble_eq_true rfl, Nat.le_of_ble_eq_true rfl⟩) hP hD hS hA [2, 3, 4] [0, 1] rfl rfl (by decide) (by decide) (fun r203 u203 H locs hwp hP hD hS => ?_)
            replace hP : va_P G vwCl [(h1, aI cI 80 f18), (h2, aI cI 80 f19), (h0, .inr (9, [.int i0, .int i1, .ref h1, .ref h2, .ref k0, .ref k1, .ref k2, .int i2, .ref k3, .int i3, .ref k4, .ref k5, .ref k6, .int i4, .ref k7, .ref k8, .int i5, .ref k9, .ref k10, .ref k11, .int i6, .ref k12, .int i7, .ref k13, .ref k14, .int i8, .int i9, .int i10, .ref k15, .int i11, .ref k16, .ref k17, .ref k18, .ref k19, .ref k20, .ref k21, .ref k22, .ref h3, .ref h4, .ref k23, .ref k24, .ref k25, .ref k26, .ref k27, .ref k28, .int i12, .int i13, .int i14, .int i15, .int i16, .ref k29, .ref k30, .ref k31, .ref k32, .ref k33, .ref k34, .int i17, .ref k35])), (h3, aI cI 20 f20), (h4, aI cI 20 f21)] H := hP
            replace hD : va_D A [(h1, aI cI 80 f18), (h2, aI cI 80 f19), (h0, .inr (9, [.int i0, .int i1, .ref h1, .ref h2, .ref k0, .ref k1, .ref k2, .int i2, .ref k3, .int i3, .ref k4, .ref k5, .ref k6, .int i4, .ref k7, .ref k8, .int i5, .ref k9, .ref k10, .ref k11, .int i6, .ref k12, .int i7, .ref k13, .ref k14, .int i8, .int i9, .int i10, .ref k15, .int i11, .ref k16, .ref k17, .ref k18, .ref k19, .ref k20, .ref k21, .ref k22, .ref h3, .ref h4, .ref k23, .ref k24, .ref k25, .ref k26, .ref k27, .ref k28, .int i12, .int i13, .int i14, .int i15, .int i16, .ref k29, .ref k30, .ref k31, .ref k32, .ref k33, .ref k34, .int i17, .ref k35])), (h3, aI cI 20 f20), (h4, aI cI 20 f21)] := hD
            refine lv_if_ne (tgt := 234) hx hb dX9_meet_206 (by decide) (fun c206 => ?_) (fun c206 => ?_)
            · replace hwp := hwp.1 c206
              refine lv_iconst (v := 1) hx hb dX9_meet_234 (by decide) ?_
              have hP9 : va_P G vwCl [(h0, .inr (9, [.int i0, .int i1, .ref h1, .ref h2, .ref k0, .ref k1, .ref k2, .int i2, .ref k3, .int i3, .ref k4, .ref k5, .ref k6, .int i4, .ref k7, .ref k8, .int i5, .ref k9, .ref k10, .ref k11, .int i6, .ref k12, .int i7, .ref k13, .ref k14, .int i8, .int i9, .int i10, .ref k15, .int i11, .ref k16, .ref k17, .ref k18, .ref k19, .ref k20, .ref k21, .ref k22, .ref h3, .ref h4, .ref k23, .ref k24, .ref k25, .ref k26, .ref k27, .ref k28, .int i12, .int i13, .int i14, .int i15, .int i16, .ref k29, .ref k30, .ref k31, .ref k32, .ref k33, .ref k34, .int i17, .ref k35])), (h1, aI cI 80 f18), (h2, aI cI 80 f19), (h3, aI cI 20 f20), (h4, aI cI 20 f21)] H := hP.sub [2, 0, 1, 3, 4] rfl
              have hD9 : va_D A [(h0, .inr (9, [.int i0, .int i1, .ref h1, .ref h2, .ref k0, .ref k1, .ref k2, .int i2, .ref k3, .int i3, .ref k4, .ref k5, .ref k6, .int i4, .ref k7, .ref k8, .int i5, .ref k9, .ref k10, .ref k11, .int i6, .ref k12, .int i7, .ref k13, .ref k14, .int i8, .int i9, .int i10, .ref k15, .int i11, .ref k16, .ref k17, .ref k18, .ref k19, .ref k20, .ref k21, .ref k22, .ref h3, .ref h4, .ref k23, .ref k24, .ref k25, .ref k26, .ref k27, .ref k28, .int i12, .int i13, .int i14, .int i15, .int i16, .ref k29, .ref k30, .ref k31, .ref k32, .ref k33, .ref k34, .int i17, .ref k35])), (h1, aI cI 80 f18), (h2, aI cI 80 f19), (h3, aI cI 20 f20), (h4, aI cI 20 f21)] := hD.sub [2, 0, 1, 3, 4] (by decide) rfl
              rw [← hQQ]
              exact W.zret (v := 1) hx hb hr rfl (fun t ht hW => ⟨⟨_, (), rfl, hwp, by rw [ht]; exact hP9, hD9⟩, hS.F ht⟩) hS.2.2 dX9_meet_235
            · replace hwp := hwp.2 c206
              refine lv_aload_n hx hb dX9_meet_209 rfl (lv_at hl 4 rfl) ?_
              refine lv_iload hx hb dX9_meet_210 (lv_at hl 1 rfl) ?_
              refine lv_iload hx hb dX9_meet_212 (lv_at hl 0 rfl) ?_
              refine lv_iload_n hx hb dX9_meet_214 rfl (lv_at hl 3 rfl) ?_
              refine xci (wr := [(h1, aI cI 80 f18), (h2, aI cI 80 f19)]) (va_runV (As := [.int v21, .int v29, .int v6]) (rest := []) ⟨hx, hb, hml, hown, hts⟩ (zX9_isWithin l G cI cJ cZ h0 h3 h4 h1 h2 k0 k1 k2 k3 k4 k5 k6 k7 k8 k9 k10 k11 k12 k13 k14 k15 k16 k17 k18 k19 k20 k21 k22 k23 k24 k25 k26 k27 k28 k29 k30 k31 k32 k33 k34 k35 H.size i0 i1 i2 i3 i4 i5 i6 i7 i8 i9 i10 i11 i12 i13 i14 i15 i16 i17 f20 f21 v21 v29 v6 _ hwp) (cwV 3 hts (xgoodV wo_687 wo_688 wo_689 wo_690 wo_454) rfl rfl rfl (by decide +kernel) ⟨Nat.le_of_ble_eq_true rfl, Nat.le_of_ble_eq_true rfl⟩) (xPreV (q := (RX9, TX9, 58)) (q0 := 2) hK hN hP hD [2, 3, 4] (by decide) rfl rfl rfl) rfl rfl hl.1 rfl (lv_room (Nat.le_of_ble_eq_true rfl)) dX9_meet_215 ⟨Nat.le_of_ble_eq_true rfl, Nat.le_of_ble_eq_true rfl⟩) hP hD hS hA [2, 3, 4] [0, 1] rfl rfl (by decide) (by decide) (fun r215 u215 H locs hwp hP hD hS => ?_)
              replace hP : va_P G vwCl [(h1, aI cI 80 f18), (h2, aI cI 80 f19), (h0, .inr (9, [.int i0, .int i1, .ref h1, .ref h2, .ref k0, .ref k1, .ref k2, .int i2, .ref k3, .int i3, .ref k4, .ref k5, .ref k6, .int i4, .ref k7, .ref k8, .int i5, .ref k9, .ref k10, .ref k11, .int i6, .ref k12, .int i7, .ref k13, .ref k14, .int i8, .int i9, .int i10, .ref k15, .int i11, .ref k16, .ref k17, .ref k18, .ref k19, .ref k20, .ref k21, .ref k22, .ref h3, .ref h4, .ref k23, .ref k24, .ref k25, .ref k26, .ref k27, .ref k28, .int i12, .int i13, .int i14, .int i15, .int i16, .ref k29, .ref k30, .ref k31, .ref k32, .ref k33, .ref k34, .int i17, .ref k35])), (h3, aI cI 20 f20), (h4, aI cI 20 f21)] H := hP
              replace hD : va_D A [(h1, aI cI 80 f18), (h2, aI cI 80 f19), (h0, .inr (9, [.int i0, .int i1, .ref h1, .ref h2, .ref k0, .ref k1, .ref k2, .int i2, .ref k3, .int i3, .ref k4, .ref k5, .ref k6, .int i4, .ref k7, .ref k8, .int i5, .ref k9, .ref k10, .ref k11, .int i6, .ref k12, .int i7, .ref k13, .ref k14, .int i8, .int i9, .int i10, .ref k15, .int i11, .ref k16, .ref k17, .ref k18, .ref k19, .ref k20, .ref k21, .ref k22, .ref h3, .ref h4, .ref k23, .ref k24, .ref k25, .ref k26, .ref k27, .ref k28, .int i12, .int i13, .int i14, .int i15, .int i16, .ref k29, .ref k30, .ref k31, .ref k32, .ref k33, .ref k34, .int i17, .ref k35])), (h3, aI cI 20 f20), (h4, aI cI 20 f21)] := hD
              refine lv_if_ne (tgt := 234) hx hb dX9_meet_218 (by decide) (fun c218 => ?_) (fun c218 => ?_)
              · replace hwp := hwp.1 c218
                refine lv_iconst (v := 1) hx hb dX9_meet_234 (by decide) ?_
                have hP9 : va_P G vwCl [(h0, .inr (9, [.int i0, .int i1, .ref h1, .ref h2, .ref k0, .ref k1, .ref k2, .int i2, .ref k3, .int i3, .ref k4, .ref k5, .ref k6, .int i4, .ref k7, .ref k8, .int i5, .ref k9, .ref k10, .ref k11, .int i6, .ref k12, .int i7, .ref k13, .ref k14, .int i8, .int i9, .int i10, .ref k15, .int i11, .ref k16, .ref k17, .ref k18, .ref k19, .ref k20, .ref k21, .ref k22, .ref h3, .ref h4, .ref k23, .ref k24, .ref k25, .ref k26, .ref k27, .ref k28, .int i12, .int i13, .int i14, .int i15, .int i16, .ref k29, .ref k30, .ref k31, .ref k32, .ref k33, .ref k34, .int i17, .ref k35])), (h1, aI cI 80 f18), (h2, aI cI 80 f19), (h3, aI cI 20 f20), (h4, aI cI 20 f21)] H := hP.sub [2, 0, 1, 3, 4] rfl
                have hD9 : va_D A [(h0, .inr (9, [.int i0, .int i1, .ref h1, .ref h2, .ref k0, .ref k1, .ref k2, .int i2, .ref k3, .int i3, .ref k4, .ref k5, .ref k6, .int i4, .ref k7, .ref k8, .int i5, .ref k9, .ref k10, .ref k11, .int i6, .ref k12, .int i7, .ref k13, .ref k14, .int i8, .int i9, .int i10, .ref k15, .int i11, .ref k16, .ref k17, .ref k18, .ref k19, .ref k20, .ref k21, .ref k22, .ref h3, .ref h4, .ref k23, .ref k24, .ref k25, .ref k26, .ref k27, .ref k28, .int i12, .int i13, .int i14, .int i15, .int i16, .ref k29, .ref k30, .ref k31, .ref k32, .ref k33, .ref k34, .int i17, .ref k35])), (h1, aI cI 80 f18), (h2, aI cI 80 f19), (h3, aI cI 20 f20), (h4, aI cI 20 f21)] := hD.sub [2, 0, 1, 3, 4] (by decide) rfl
                rw [← hQQ]
                exact W.zret (v := 1) hx hb hr rfl (fun t ht hW => ⟨⟨_, (), rfl, hwp, by rw [ht]; exact hP9, hD9⟩, hS.F ht⟩) hS.2.2 dX9_meet_235
              · replace hwp := hwp.2 c218
                refine lv_aload_n hx hb dX9_meet_221 rfl (lv_at hl 4 rfl) ?_
                refine lv_iload hx hb dX9_meet_222 (lv_at hl 1 rfl) ?_
                refine lv_iload hx hb dX9_meet_224 (lv_at hl 0 rfl) ?_
                refine lv_iload hx hb dX9_meet_226 (lv_at hl 2 rfl) ?_
                refine xci (wr := [(h1, aI cI 80 f18), (h2, aI cI 80 f19)]) (va_runV (As := [.int v21, .int v29, .int v13]) (rest := []) ⟨hx, hb, hml, hown, hts⟩ (zX9_isWithin l G cI cJ cZ h0 h3 h4 h1 h2 k0 k1 k2 k3 k4 k5 k6 k7 k8 k9 k10 k11 k12 k13 k14 k15 k16 k17 k18 k19 k20 k21 k22 k23 k24 k25 k26 k27 k28 k29 k30 k31 k32 k33 k34 k35 H.size i0 i1 i2 i3 i4 i5 i6 i7 i8 i9 i10 i11 i12 i13 i14 i15 i16 i17 f20 f21 v21 v29 v13 _ hwp) (cwV 3 hts (xgoodV wo_687 wo_688 wo_689 wo_690 wo_454) rfl rfl rfl (by decide +kernel) ⟨Nat.le_of_ble_eq_true rfl, Nat.le_of_ble_eq_true rfl⟩) (xPreV (q := (RX9, TX9, 58)) (q0 := 2) hK hN hP hD [2, 3, 4] (by decide) rfl rfl rfl) rfl rfl hl.1 rfl (lv_room (Nat.le_of_ble_eq_true rfl)) dX9_meet_228 ⟨Nat.le_of_ble_eq_true rfl, Nat.le_of_ble_eq_true rfl⟩) hP hD hS hA [2, 3, 4] [0, 1] rfl rfl (by decide) (by decide) (fun r228 u228 H locs hwp hP hD hS => ?_)
                replace hP : va_P G vwCl [(h1, aI cI 80 f18), (h2, aI cI 80 f19), (h0, .inr (9, [.int i0, .int i1, .ref h1, .ref h2, .ref k0, .ref k1, .ref k2, .int i2, .ref k3, .int i3, .ref k4, .ref k5, .ref k6, .int i4, .ref k7, .ref k8, .int i5, .ref k9, .ref k10, .ref k11, .int i6, .ref k12, .int i7, .ref k13, .ref k14, .int i8, .int i9, .int i10, .ref k15, .int i11, .ref k16, .ref k17, .ref k18, .ref k19, .ref k20, .ref k21, .ref k22, .ref h3, .ref h4, .ref k23, .ref k24, .ref k25, .ref k26, .ref k27, .ref k28, .int i12, .int i13, .int i14, .int i15, .int i16, .ref k29, .ref k30, .ref k31, .ref k32, .ref k33, .ref k34, .int i17, .ref k35])), (h3, aI cI 20 f20), (h4, aI cI 20 f21)] H := hP
                replace hD : va_D A [(h1, aI cI 80 f18), (h2, aI cI 80 f19), (h0, .inr (9, [.int i0, .int i1, .ref h1, .ref h2, .ref k0, .ref k1, .ref k2, .int i2, .ref k3, .int i3, .ref k4, .ref k5, .ref k6, .int i4, .ref k7, .ref k8, .int i5, .ref k9, .ref k10, .ref k11, .int i6, .ref k12, .int i7, .ref k13, .ref k14, .int i8, .int i9, .int i10, .ref k15, .int i11, .ref k16, .ref k17, .ref k18, .ref k19, .ref k20, .ref k21, .ref k22, .ref h3, .ref h4, .ref k23, .ref k24, .ref k25, .ref k26, .ref k27, .ref k28, .int i12, .int i13, .int i14, .int i15, .int i16, .ref k29, .ref k30, .ref k31, .ref k32, .ref k33, .ref k34, .int i17, .ref k35])), (h3, aI cI 20 f20), (h4, aI cI 20 f21)] := hD
                refine lv_if_eq (tgt := 236) hx hb dX9_meet_231 (by decide) (fun c231 => ?_) (fun c231 => ?_)
                · replace hwp := hwp.1 c231
                  refine lv_aload_n hx hb dX9_meet_236 rfl (lv_at hl 4 rfl) ?_
                  refine lv_iload_n hx hb dX9_meet_237 rfl (lv_at hl 3 rfl) ?_
                  refine lv_iload hx hb dX9_meet_238 (lv_at hl 2 rfl) ?_
                  refine lv_iload hx hb dX9_meet_240 (lv_at hl 1 rfl) ?_
                  refine xci (wr := [(h1, aI cI 80 f18), (h2, aI cI 80 f19)]) (va_runV (As := [.int v6, .int v13, .int v21]) (rest := []) ⟨hx, hb, hml, hown, hts⟩ (zX9_side l G cI cJ cZ h0 h3 h4 h1 h2 k0 k1 k2 k3 k4 k5 k6 k7 k8 k9 k10 k11 k12 k13 k14 k15 k16 k17 k18 k19 k20 k21 k22 k23 k24 k25 k26 k27 k28 k29 k30 k31 k32 k33 k34 k35 H.size i0 i1 i2 i3 i4 i5 i6 i7 i8 i9 i10 i11 i12 i13 i14 i15 i16 i17 f20 f21 v6 v13 v21 _ hwp) (cwV 3 hts (xgoodV wo_683 wo_684 wo_685 wo_686 wo_454) rfl rfl rfl (by decide +kernel) ⟨Nat.le_of_ble_eq_true rfl, Nat.le_of_ble_eq_true rfl⟩) (xPreV (q := (RX9, TX9, 58)) (q0 := 2) hK hN hP hD [2, 3, 4] (by decide) rfl rfl rfl) rfl rfl hl.1 rfl (lv_room (Nat.le_of_ble_eq_true rfl)) dX9_meet_242 ⟨Nat.le_of_ble_eq_true rfl, Nat.le_of_ble_eq_true rfl⟩) hP hD hS hA [2, 3, 4] [0, 1] rfl rfl (by decide) (by decide) (fun r242 u242 H locs hwp hP hD hS => ?_)
                  replace hP : va_P G vwCl [(h1, aI cI 80 f18), (h2, aI cI 80 f19), (h0, .inr (9, [.int i0, .int i1, .ref h1, .ref h2, .ref k0, .ref k1, .ref k2, .int i2, .ref k3, .int i3, .ref k4, .ref k5, .ref k6, .int i4, .ref k7, .ref k8, .int i5, .ref k9, .ref k10, .ref k11, .int i6, .ref k12, .int i7, .ref k13, .ref k14, .int i8, .int i9, .int i10, .ref k15, .int i11, .ref k16, .ref k17, .ref k18, .ref k19, .ref k20, .ref k21, .ref k22, .ref h3, .ref h4, .ref k23, .ref k24, .ref k25, .ref k26, .ref k27, .ref k28, .int i12, .int i13, .int i14, .int i15, .int i16, .ref k29, .ref k30, .ref k31, .ref k32, .ref k33, .ref k34, .int i17, .ref k35])), (h3, aI cI 20 f20), (h4, aI cI 20 f21)] H := hP
                  replace hD : va_D A [(h1, aI cI 80 f18), (h2, aI cI 80 f19), (h0, .inr (9, [.int i0, .int i1, .ref h1, .ref h2, .ref k0, .ref k1, .ref k2, .int i2, .ref k3, .int i3, .ref k4, .ref k5, .ref k6, .int i4, .ref k7, .ref k8, .int i5, .ref k9, .ref k10, .ref k11, .int i6, .ref k12, .int i7, .ref k13, .ref k14, .int i8, .int i9, .int i10, .ref k15, .int i11, .ref k16, .ref k17, .ref k18, .ref k19, .ref k20, .ref k21, .ref k22, .ref h3, .ref h4, .ref k23, .ref k24, .ref k25, .ref k26, .ref k27, .ref k28, .int i12, .int i13, .int i14, .int i15, .int i16, .ref k29, .ref k30, .ref k31, .ref k32, .ref k33, .ref k34, .int i17, .ref k35])), (h3, aI cI 20 f20), (h4, aI cI 20 f21)] := hD
                  refine lv_aload_n hx hb dX9_meet_245 rfl (lv_at hl 4 rfl) ?_
                  refine lv_iload_n hx hb dX9_meet_246 rfl (lv_at hl 3 rfl) ?_
                  refine lv_iload hx hb dX9_meet_247 (lv_at hl 2 rfl) ?_
                  refine lv_iload hx hb dX9_meet_249 (lv_at hl 0 rfl) ?_
                  refine xci (wr := [(h1, aI cI 80 f18), (h2, aI cI 80 f19)]) (va_runV (As := [.int v6, .int v13, .int v29]) (rest := [.int r242]) ⟨hx, hb, hml, hown, hts⟩ (zX9_side l G cI cJ cZ h0 h3 h4 h1 h2 k0 k1 k2 k3 k4 k5 k6 k7 k8 k9 k10 k11 k12 k13 k14 k15 k16 k17 k18 k19 k20 k21 k22 k23 k24 k25 k26 k27 k28 k29 k30 k31 k32 k33 k34 k35 H.size i0 i1 i2 i3 i4 i5 i6 i7 i8 i9 i10 i11 i12 i13 i14 i15 i16 i17 f20 f21 v6 v13 v29 _ hwp) (cwV 3 hts (xgoodV wo_683 wo_684 wo_685 wo_686 wo_454) rfl rfl rfl (by decide +kernel) ⟨Nat.le_of_ble_eq_true rfl, Nat.le_of_ble_eq_true rfl⟩) (xPreV (q := (RX9, TX9, 58)) (q0 := 2) hK hN hP hD [2, 3, 4] (by decide) rfl rfl rfl) rfl rfl hl.1 rfl (lv_room (Nat.le_of_ble_eq_true rfl)) dX9_meet_251 ⟨Nat.le_of_ble_eq_true rfl, Nat.le_of_ble_eq_true rfl⟩) hP hD hS hA [2, 3, 4] [0, 1] rfl rfl (by decide) (by decide) (fun r251 u251 H locs hwp hP hD hS => ?_)
                  replace hP : va_P G vwCl [(h1, aI cI 80 f18), (h2, aI cI 80 f19), (h0, .inr (9, [.int i0, .int i1, .ref h1, .ref h2, .ref k0, .ref k1, .ref k2, .int i2, .ref k3, .int i3, .ref k4, .ref k5, .ref k6, .int i4, .ref k7, .ref k8, .int i5, .ref k9, .ref k10, .ref k11, .int i6, .ref k12, .int i7, .ref k13, .ref k14, .int i8, .int i9, .int i10, .ref k15, .int i11, .ref k16, .ref k17, .ref k18, .ref k19, .ref k20, .ref k21, .ref k22, .ref h3, .ref h4, .ref k23, .ref k24, .ref k25, .ref k26, .ref k27, .ref k28, .int i12, .int i13, .int i14, .int i15, .int i16, .ref k29, .ref k30, .ref k31, .ref k32, .ref k33, .ref k34, .int i17, .ref k35])), (h3, aI cI 20 f20), (h4, aI cI 20 f21)] H := hP
                  replace hD : va_D A [(h1, aI cI 80 f18), (h2, aI cI 80 f19), (h0, .inr (9, [.int i0, .int i1, .ref h1, .ref h2, .ref k0, .ref k1, .ref k2, .int i2, .ref k3, .int i3, .ref k4, .ref k5, .ref k6, .int i4, .ref k7, .ref k8, .int i5, .ref k9, .ref k10, .ref k11, .int i6, .ref k12, .int i7, .ref k13, .ref k14, .int i8, .int i9, .int i10, .ref k15, .int i11, .ref k16, .ref k17, .ref k18, .ref k19, .ref k20, .ref k21, .ref k22, .ref h3, .ref h4, .ref k23, .ref k24, .ref k25, .ref k26, .ref k27, .ref k28, .int i12, .int i13, .int i14, .int i15, .int i16, .ref k29, .ref k30, .ref k31, .ref k32, .ref k33, .ref k34, .int i17, .ref k35])), (h3, aI cI 20 f20), (h4, aI cI 20 f21)] := hD
                  refine lv_imul hx hb dX9_meet_254 ?_
                  refine lv_if_ge (tgt := 285) hx hb dX9_meet_255 (by decide) (fun c255 => ?_) (fun c255 => ?_)
                  · replace hwp := hwp.1 c255
                    refine lv_iconst (v := 0) hx hb dX9_meet_285 (by decide) ?_
                    have hP9 : va_P G vwCl [(h0, .inr (9, [.int i0, .int i1, .ref h1, .ref h2, .ref k0, .ref k1, .ref k2, .int i2, .ref k3, .int i3, .ref k4, .ref k5, .ref k6, .int i4, .ref k7, .ref k8, .int i5, .ref k9, .ref k10, .ref k11, .int i6, .ref k12, .int i7, .ref k13, .ref k14, .int i8, .int i9, .int i10, .ref k15, .int i11, .ref k16, .ref k17, .ref k18, .ref k19, .ref k20, .ref k21, .ref k22, .ref h3, .ref h4, .ref k23, .ref k24, .ref k25, .ref k26, .ref k27, .ref k28, .int i12, .int i13, .int i14, .int i15, .int i16, .ref k29, .ref k30, .ref k31, .ref k32, .ref k33, .ref k34, .int i17, .ref k35])), (h1, aI cI 80 f18), (h2, aI cI 80 f19), (h3, aI cI 20 f20), (h4, aI cI 20 f21)] H := hP.sub [2, 0, 1, 3, 4] rfl
                    have hD9 : va_D A [(h0, .inr (9, [.int i0, .int i1, .ref h1, .ref h2, .ref k0, .ref k1, .ref k2, .int i2, .ref k3, .int i3, .ref k4, .ref k5, .ref k6, .int i4, .ref k7, .ref k8, .int i5, .ref k9, .ref k10, .ref k11, .int i6, .ref k12, .int i7, .ref k13, .ref k14, .int i8, .int i9, .int i10, .ref k15, .int i11, .ref k16, .ref k17, .ref k18, .ref k19, .ref k20, .ref k21, .ref k22, .ref h3, .ref h4, .ref k23, .ref k24, .ref k25, .ref k26, .ref k27, .ref k28, .int i12, .int i13, .int i14, .int i15, .int i16, .ref k29, .ref k30, .ref k31, .ref k32, .ref k33, .ref k34, .int i17, .ref k35])), (h1, aI cI 80 f18), (h2, aI cI 80 f19), (h3, aI cI 20 f20), (h4, aI cI 20 f21)] := hD.sub [2, 0, 1, 3, 4] (by decide) rfl
                    rw [← hQQ]
                    exact W.zret (v := 0) hx hb hr rfl (fun t ht hW => ⟨⟨_, (), rfl, hwp, by rw [ht]; exact hP9, hD9⟩, hS.F ht⟩) hS.2.2 dX9_meet_286
                  · replace hwp := hwp.2 c255
                    refine lv_aload_n hx hb dX9_meet_258 rfl (lv_at hl 4 rfl) ?_
                    refine lv_iload hx hb dX9_meet_259 (lv_at hl 1 rfl) ?_
                    refine lv_iload hx hb dX9_meet_261 (lv_at hl 0 rfl) ?_
                    refine lv_iload_n hx hb dX9_meet_263 rfl (lv_at hl 3 rfl) ?_
                    refine xci (wr := [(h1, aI cI 80 f18), (h2, aI cI 80 f19)]) (va_runV (As := [.int v21, .int v29, .int v6]) (rest := []) ⟨hx, hb, hml, hown, hts⟩ (zX9_side l G cI cJ cZ h0 h3 h4 h1 h2 k0 k1 k2 k3 k4 k5 k6 k7 k8 k9 k10 k11 k12 k13 k14 k15 k16 k17 k18 k19 k20 k21 k22 k23 k24 k25 k26 k27 k28 k29 k30 k31 k32 k33 k34 k35 H.size i0 i1 i2 i3 i4 i5 i6 i7 i8 i9 i10 i11 i12 i13 i14 i15 i16 i17 f20 f21 v21 v29 v6 _ hwp) (cwV 3 hts (xgoodV wo_683 wo_684 wo_685 wo_686 wo_454) rfl rfl rfl (by decide +kernel) ⟨Nat.le_of_ble_eq_true rfl, Nat.le_of_ble_eq_true rfl⟩) (xPreV (q := (RX9, TX9, 58)) (q0 := 2) hK hN hP hD [2, 3, 4] (by decide) rfl rfl rfl) rfl rfl hl.1 rfl (lv_room (Nat.le_of_ble_eq_true rfl)) dX9_meet_264 ⟨Nat.le_of_ble_eq_true rfl, Nat.le_of_ble_eq_true rfl⟩) hP hD hS hA [2, 3, 4] [0, 1] rfl rfl (by decide) (by decide) (fun r264 u264 H locs hwp hP hD hS => ?_)
                    replace hP : va_P G vwCl [(h1, aI cI 80 f18), (h2, aI cI 80 f19), (h0, .inr (9, [.int i0, .int i1, .ref h1, .ref h2, .ref k0, .ref k1, .ref k2, .int i2, .ref k3, .int i3, .ref k4, .ref k5, .ref k6, .int i4, .ref k7, .ref k8, .int i5, .ref k9, .ref k10, .ref k11, .int i6, .ref k12, .int i7, .ref k13, .ref k14, .int i8, .int i9, .int i10, .ref k15, .int i11, .ref k16, .ref k17, .ref k18, .ref k19, .ref k20, .ref k21, .ref k22, .ref h3, .ref h4, .ref k23, .ref k24, .ref k25, .ref k26, .ref k27, .ref k28, .int i12, .int i13, .int i14, .int i15, .int i16, .ref k29, .ref k30, .ref k31, .ref k32, .ref k33, .ref k34, .int i17, .ref k35])), (h3, aI cI 20 f20), (h4, aI cI 20 f21)] H := hP
                    replace hD : va_D A [(h1, aI cI 80 f18), (h2, aI cI 80 f19), (h0, .inr (9, [.int i0, .int i1, .ref h1, .ref h2, .ref k0, .ref k1, .ref k2, .int i2, .ref k3, .int i3, .ref k4, .ref k5, .ref k6, .int i4, .ref k7, .ref k8, .int i5, .ref k9, .ref k10, .ref k11, .int i6, .ref k12, .int i7, .ref k13, .ref k14, .int i8, .int i9, .int i10, .ref k15, .int i11, .ref k16, .ref k17, .ref k18, .ref k19, .ref k20, .ref k21, .ref k22, .ref h3, .ref h4, .ref k23, .ref k24, .ref k25, .ref k26, .ref k27, .ref k28, .int i12, .int i13, .int i14, .int i15, .int i16, .ref k29, .ref k30, .ref k31, .ref k32, .ref k33, .ref k34, .int i17, .ref k35])), (h3, aI cI 20 f20), (h4, aI cI 20 f21)] := hD
                    refine lv_aload_n hx hb dX9_meet_267 rfl (lv_at hl 4 rfl) ?_
                    refine lv_iload hx hb dX9_meet_268 (lv_at hl 1 rfl) ?_
                    refine lv_iload hx hb dX9_meet_270 (lv_at hl 0 rfl) ?_
                    refine lv_iload hx hb dX9_meet_272 (lv_at hl 2 rfl) ?_
                    refine xci (wr := [(h1, aI cI 80 f18), (h2, aI cI 80 f19)]) (va_runV (As := [.int v21, .int v29, .int v13]) (rest := [.int r264]) ⟨hx, hb, hml, hown, hts⟩ (zX9_side l G cI cJ cZ h0 h3 h4 h1 h2 k0 k1 k2 k3 k4 k5 k6 k7 k8 k9 k10 k11 k12 k13 k14 k15 k16 k17 k18 k19 k20 k21 k22 k23 k24 k25 k26 k27 k28 k29 k30 k31 k32 k33 k34 k35 H.size i0 i1 i2 i3 i4 i5 i6 i7 i8 i9 i10 i11 i12 i13 i14 i15 i16 i17 f20 f21 v21 v29 v13 _ hwp) (cwV 3 hts (xgoodV wo_683 wo_684 wo_685 wo_686 wo_454) rfl rfl rfl (by decide +kernel) ⟨Nat.le_of_ble_eq_true rfl, Nat.le_of_ble_eq_true rfl⟩) (xPreV (q := (RX9, TX9, 58)) (q0 := 2) hK hN hP hD [2, 3, 4] (by decide) rfl rfl rfl) rfl rfl hl.1 rfl (lv_room (Nat.le_of_ble_eq_true rfl)) dX9_meet_274 ⟨Nat.le_of_ble_eq_true rfl, Nat.le_of_ble_eq_true rfl⟩) hP hD hS hA [2, 3, 4] [0, 1] rfl rfl (by decide) (by decide) (fun r274 u274 H locs hwp hP hD hS => ?_)
                    replace hP : va_P G vwCl [(h1, aI cI 80 f18), (h2, aI cI 80 f19), (h0, .inr (9, [.int i0, .int i1, .ref h1, .ref h2, .ref k0, .ref k1, .ref k2, .int i2, .ref k3, .int i3, .ref k4, .ref k5, .ref k6, .int i4, .ref k7, .ref k8, .int i5, .ref k9, .ref k10, .ref k11, .int i6, .ref k12, .int i7, .ref k13, .ref k14, .int i8, .int i9, .int i10, .ref k15, .int i11, .ref k16, .ref k17, .ref k18, .ref k19, .ref k20, .ref k21, .ref k22, .ref h3, .ref h4, .ref k23, .ref k24, .ref k25, .ref k26, .ref k27, .ref k28, .int i12, .int i13, .int i14, .int i15, .int i16, .ref k29, .ref k30, .ref k31, .ref k32, .ref k33, .ref k34, .int i17, .ref k35])), (h3, aI cI 20 f20), (h4, aI cI 20 f21)] H := hP
                    replace hD : va_D A [(h1, aI cI 80 f18), (h2, aI cI 80 f19), (h0, .inr (9, [.int i0, .int i1, .ref h1, .ref h2, .ref k0, .ref k1, .ref k2, .int i2, .ref k3, .int i3, .ref k4, .ref k5, .ref k6, .int i4, .ref k7, .ref k8, .int i5, .ref k9, .ref k10, .ref k11, .int i6, .ref k12, .int i7, .ref k13, .ref k14, .int i8, .int i9, .int i10, .ref k15, .int i11, .ref k16, .ref k17, .ref k18, .ref k19, .ref k20, .ref k21, .ref k22, .ref h3, .ref h4, .ref k23, .ref k24, .ref k25, .ref k26, .ref k27, .ref k28, .int i12, .int i13, .int i14, .int i15, .int i16, .ref k29, .ref k30, .ref k31, .ref k32, .ref k33, .ref k34, .int i17, .ref k35])), (h3, aI cI 20 f20), (h4, aI cI 20 f21)] := hD
                    refine lv_imul hx hb dX9_meet_277 ?_
                    refine lv_if_ge (tgt := 285) hx hb dX9_meet_278 (by decide) (fun c278 => ?_) (fun c278 => ?_)
                    · replace hwp := hwp.1 c278
                      refine lv_iconst (v := 0) hx hb dX9_meet_285 (by decide) ?_
                      have hP9 : va_P G vwCl [(h0, .inr (9, [.int i0, .int i1, .ref h1, .ref h2, .ref k0, .ref k1, .ref k2, .int i2, .ref k3, .int i3, .ref k4, .ref k5, .ref k6, .int i4, .ref k7, .ref k8, .int i5, .ref k9, .ref k10, .ref k11, .int i6, .ref k12, .int i7, .ref k13, .ref k14, .int i8, .int i9, .int i10, .ref k15, .int i11, .ref k16, .ref k17, .ref k18, .ref k19, .ref k20, .ref k21, .ref k22, .ref h3, .ref h4, .ref k23, .ref k24, .ref k25, .ref k26, .ref k27, .ref k28, .int i12, .int i13, .int i14, .int i15, .int i16, .ref k29, .ref k30, .ref k31, .ref k32, .ref k33, .ref k34, .int i17, .ref k35])), (h1, aI cI 80 f18), (h2, aI cI 80 f19), (h3, aI cI 20 f20), (h4, aI cI 20 f21)] H := hP.sub [2, 0, 1, 3, 4] rfl
                      have hD9 : va_D A [(h0, .inr (9, [.int i0, .int i1, .ref h1, .ref h2, .ref k0, .ref k1, .ref k2, .int i2, .ref k3, .int i3, .ref k4, .ref k5, .ref k6, .int i4, .ref k7, .ref k8, .int i5, .ref k9, .ref k10, .ref k11, .int i6, .ref k12, .int i7, .ref k13, .ref k14, .int i8, .int i9, .int i10, .ref k15, .int i11, .ref k16, .ref k17, .ref k18, .ref k19, .ref k20, .ref k21, .ref k22, .ref h3, .ref h4, .ref k23, .ref k24, .ref k25, .ref k26, .ref k27, .ref k28, .int i12, .int i13, .int i14, .int i15, .int i16, .ref k29, .ref k30, .ref k31, .ref k32, .ref k33, .ref k34, .int i17, .ref k35])), (h1, aI cI 80 f18), (h2, aI cI 80 f19), (h3, aI cI 20 f20), (h4, aI cI 20 f21)] := hD.sub [2, 0, 1, 3, 4] (by decide) rfl
                      rw [← hQQ]
                      exact W.zret (v := 0) hx hb hr rfl (fun t ht hW => ⟨⟨_, (), rfl, hwp, by rw [ht]; exact hP9, hD9⟩, hS.F ht⟩) hS.2.2 dX9_meet_286
                    · replace hwp := hwp.2 c278
                      refine lv_iconst (v := 1) hx hb dX9_meet_281 (by decide) ?_
                      refine lv_goto (tgt := 286) hx hb dX9_meet_282 (by decide) ?_
                      have hP9 : va_P G vwCl [(h0, .inr (9, [.int i0, .int i1, .ref h1, .ref h2, .ref k0, .ref k1, .ref k2, .int i2, .ref k3, .int i3, .ref k4, .ref k5, .ref k6, .int i4, .ref k7, .ref k8, .int i5, .ref k9, .ref k10, .ref k11, .int i6, .ref k12, .int i7, .ref k13, .ref k14, .int i8, .int i9, .int i10, .ref k15, .int i11, .ref k16, .ref k17, .ref k18, .ref k19, .ref k20, .ref k21, .ref k22, .ref h3, .ref h4, .ref k23, .ref k24, .ref k25, .ref k26, .ref k27, .ref k28, .int i12, .int i13, .int i14, .int i15, .int i16, .ref k29, .ref k30, .ref k31, .ref k32, .ref k33, .ref k34, .int i17, .ref k35])), (h1, aI cI 80 f18), (h2, aI cI 80 f19), (h3, aI cI 20 f20), (h4, aI cI 20 f21)] H := hP.sub [2, 0, 1, 3, 4] rfl
                      have hD9 : va_D A [(h0, .inr (9, [.int i0, .int i1, .ref h1, .ref h2, .ref k0, .ref k1, .ref k2, .int i2, .ref k3, .int i3, .ref k4, .ref k5, .ref k6, .int i4, .ref k7, .ref k8, .int i5, .ref k9, .ref k10, .ref k11, .int i6, .ref k12, .int i7, .ref k13, .ref k14, .int i8, .int i9, .int i10, .ref k15, .int i11, .ref k16, .ref k17, .ref k18, .ref k19, .ref k20, .ref k21, .ref k22, .ref h3, .ref h4, .ref k23, .ref k24, .ref k25, .ref k26, .ref k27, .ref k28, .int i12, .int i13, .int i14, .int i15, .int i16, .ref k29, .ref k30, .ref k31, .ref k32, .ref k33, .ref k34, .int i17, .ref k35])), (h1, aI cI 80 f18), (h2, aI cI 80 f19), (h3, aI cI 20 f20), (h4, aI cI 20 f21)] := hD.sub [2, 0, 1, 3, 4] (by decide) rfl
                      rw [← hQQ]
                      exact W.zret (v := 1) hx hb hr rfl (fun t ht hW => ⟨⟨_, (), rfl, hwp, by rw [ht]; exact hP9, hD9⟩, hS.F ht⟩) hS.2.2 dX9_meet_286
                · replace hwp := hwp.2 c231
                  refine lv_iconst (v := 1) hx hb dX9_meet_234 (by decide) ?_
                  have hP9 : va_P G vwCl [(h0, .inr (9, [.int i0, .int i1, .ref h1, .ref h2, .ref k0, .ref k1, .ref k2, .int i2, .ref k3, .int i3, .ref k4, .ref k5, .ref k6, .int i4, .ref k7, .ref k8, .int i5, .ref k9, .ref k10, .ref k11, .int i6, .ref k12, .int i7, .ref k13, .ref k14, .int i8, .int i9, .int i10, .ref k15, .int i11, .ref k16, .ref k17, .ref k18, .ref k19, .ref k20, .ref k21, .ref k22, .ref h3, .ref h4, .ref k23, .ref k24, .ref k25, .ref k26, .ref k27, .ref k28, .int i12, .int i13, .int i14, .int i15, .int i16, .ref k29, .ref k30, .ref k31, .ref k32, .ref k33, .ref k34, .int i17, .ref k35])), (h1, aI cI 80 f18), (h2, aI cI 80 f19), (h3, aI cI 20 f20), (h4, aI cI 20 f21)] H := hP.sub [2, 0, 1, 3, 4] rfl
                  have hD9 : va_D A [(h0, .inr (9, [.int i0, .int i1, .ref h1, .ref h2, .ref k0, .ref k1, .ref k2, .int i2, .ref k3, .int i3, .ref k4, .ref k5, .ref k6, .int i4, .ref k7, .ref k8, .int i5, .ref k9, .ref k10, .ref k11, .int i6, .ref k12, .int i7, .ref k13, .ref k14, .int i8, .int i9, .int i10, .ref k15, .int i11, .ref k16, .ref k17, .ref k18, .ref k19, .ref k20, .ref k21, .ref k22, .ref h3, .ref h4, .ref k23, .ref k24, .ref k25, .ref k26, .ref k27, .ref k28, .int i12, .int i13, .int i14, .int i15, .int i16, .ref k29, .ref k30, .ref k31, .ref k32, .ref k33, .ref k34, .int i17, .ref k35])), (h1, aI cI 80 f18), (h2, aI cI 80 f19), (h3, aI cI 20 f20), (h4, aI cI 20 f21)] := hD.sub [2, 0, 1, 3, 4] (by decide) rfl
                  rw [← hQQ]
                  exact W.zret (v := 1) hx hb hr rfl (fun t ht hW => ⟨⟨_, (), rfl, hwp, by rw [ht]; exact hP9, hD9⟩, hS.F ht⟩) hS.2.2 dX9_meet_235
        · replace hwp := hwp.2 c54
          refine lv_iload_n hx hb dX9_meet_57 rfl (lv_at hl 3 rfl) ?_
          refine lv_iload hx hb dX9_meet_58 (lv_at hl 1 rfl) ?_
          refine lv_icmp_eq (tgt := 69) hx hb dX9_meet_60 (by decide) (fun c60 => ?_) (fun c60 => ?_)
          · replace hwp := hwp.1 c60
            refine lv_iload_n hx hb dX9_meet_69 rfl (lv_at hl 3 rfl) ?_
            refine lv_goto (tgt := 75) hx hb dX9_meet_70 (by decide) ?_
            refine lv_istore (lv' := [(7, .int v6), (6, .int v29), (5, .int v21), (4, .int v13), (3, .int v6), (0, .ref h0), (1, .int p0), (2, .int p1)]) hx hb dX9_meet_75 hl (by decide) rfl (fun ls hl => ?_)
            refine lv_iload_n hx hb dX9_meet_77 rfl (lv_at hl 4 rfl) ?_
            refine lv_iload hx hb dX9_meet_78 (lv_at hl 3 rfl) ?_
            refine lv_iadd hx hb dX9_meet_80 ?_
            refine lv_iload hx hb dX9_meet_81 (lv_at hl 0 rfl) ?_
            refine lv_isub hx hb dX9_meet_83 ?_
            refine lv_topi (fun v84 ev84 => ?_)
            replace hwp := hwp v84 ev84
            clear ev84
            refine lv_istore (lv' := [(8, .int v84), (7, .int v6), (6, .int v29), (5, .int v21), (4, .int v13), (3, .int v6), (0, .ref h0), (1, .int p0), (2, .int p1)]) hx hb dX9_meet_84 hl (by decide) rfl (fun ls hl => ?_)
            refine lv_iload hx hb dX9_meet_86 (lv_at hl 3 rfl) ?_
            refine lv_iload hx hb dX9_meet_88 (lv_at hl 2 rfl) ?_
            refine lv_iadd hx hb dX9_meet_90 ?_
            refine lv_iload hx hb dX9_meet_91 (lv_at hl 1 rfl) ?_
            refine lv_isub hx hb dX9_meet_93 ?_
            refine lv_topi (fun v94 ev94 => ?_)
            replace hwp := hwp v94 ev94
            clear ev94
            refine lv_istore (lv' := [(9, .int v94), (8, .int v84), (7, .int v6), (6, .int v29), (5, .int v21), (4, .int v13), (3, .int v6), (0, .ref h0), (1, .int p0), (2, .int p1)]) hx hb dX9_meet_94 hl (by decide) rfl (fun ls hl => ?_)
            refine lv_aload_n hx hb dX9_meet_96 rfl (lv_at hl 7 rfl) ?_
            refine va_get (D := G) (ci := 9) (v := .ref h3) (C := RX9) (T := TX9) (N := 58) hx hb hts xinX9 hown hK hP 0 rfl rfl 37 (by decide) (hts _ wo_584) (fun _ h9 => h9) rfl dX9_meet_97 ?_
            refine lv_iload hx hb dX9_meet_100 (lv_at hl 1 rfl) ?_
            obtain ⟨hi, hwp⟩ := hwp
            refine va_iald hx hb hK hP 3 0 rfl rfl hi dX9_meet_102 ?_
            refine lv_aload_n hx hb dX9_meet_103 rfl (lv_at hl 7 rfl) ?_
            refine va_get (D := G) (ci := 9) (v := .ref h3) (C := RX9) (T := TX9) (N := 58) hx hb hts xinX9 hown hK hP 0 rfl rfl 37 (by decide) (hts _ wo_584) (fun _ h9 => h9) rfl dX9_meet_104 ?_
            refine lv_iload hx hb dX9_meet_107 (lv_at hl 2 rfl) ?_
            obtain ⟨hi, hwp⟩ := hwp
            refine va_iald hx hb hK hP 3 0 rfl rfl hi dX9_meet_109 ?_
            refine lv_isub hx hb dX9_meet_110 ?_
            refine lv_aload_n hx hb dX9_meet_111 rfl (lv_at hl 7 rfl) ?_
            refine va_get (D := G) (ci := 9) (v := .ref h3) (C := RX9) (T := TX9) (N := 58) hx hb hts xinX9 hown hK hP 0 rfl rfl 37 (by decide) (hts _ wo_584) (fun _ h9 => h9) rfl dX9_meet_112 ?_
            refine lv_iload hx hb dX9_meet_115 (lv_at hl 0 rfl) ?_
            obtain ⟨hi, hwp⟩ := hwp
            refine va_iald hx hb hK hP 3 0 rfl rfl hi dX9_meet_117 ?_
            refine lv_aload_n hx hb dX9_meet_118 rfl (lv_at hl 7 rfl) ?_
            refine va_get (D := G) (ci := 9) (v := .ref h3) (C := RX9) (T := TX9) (N := 58) hx hb hts xinX9 hown hK hP 0 rfl rfl 37 (by decide) (hts _ wo_584) (fun _ h9 => h9) rfl dX9_meet_119 ?_
            refine lv_iload hx hb dX9_meet_122 (lv_at hl 2 rfl) ?_
            obtain ⟨hi, hwp⟩ := hwp
            refine va_iald hx hb hK hP 3 0 rfl rfl hi dX9_meet_124 ?_
            refine lv_isub hx hb dX9_meet_125 ?_
            refine lv_imul hx hb dX9_meet_126 ?_
            refine lv_aload_n hx hb dX9_meet_127 rfl (lv_at hl 7 rfl) ?_
            refine va_get (D := G) (ci := 9) (v := .ref h4) (C := RX9) (T := TX9) (N := 58) hx hb hts xinX9 hown hK hP 0 rfl rfl 38 (by decide) (hts _ wo_585) (fun _ h9 => h9) rfl dX9_meet_128 ?_
            refine lv_iload hx hb dX9_meet_131 (lv_at hl 1 rfl) ?_
            obtain ⟨hi, hwp⟩ := hwp
            refine va_iald hx hb hK hP 4 0 rfl rfl hi dX9_meet_133 ?_
            refine lv_aload_n hx hb dX9_meet_134 rfl (lv_at hl 7 rfl) ?_
            refine va_get (D := G) (ci := 9) (v := .ref h4) (C := RX9) (T := TX9) (N := 58) hx hb hts xinX9 hown hK hP 0 rfl rfl 38 (by decide) (hts _ wo_585) (fun _ h9 => h9) rfl dX9_meet_135 ?_
            refine lv_iload hx hb dX9_meet_138 (lv_at hl 2 rfl) ?_
            obtain ⟨hi, hwp⟩ := hwp
            refine va_iald hx hb hK hP 4 0 rfl rfl hi dX9_meet_140 ?_
            refine lv_isub hx hb dX9_meet_141 ?_
            refine lv_aload_n hx hb dX9_meet_142 rfl (lv_at hl 7 rfl) ?_
            refine va_get (D := G) (ci := 9) (v := .ref h4) (C := RX9) (T := TX9) (N := 58) hx hb hts xinX9 hown hK hP 0 rfl rfl 38 (by decide) (hts _ wo_585) (fun _ h9 => h9) rfl dX9_meet_143 ?_
            refine lv_iload hx hb dX9_meet_146 (lv_at hl 0 rfl) ?_
            obtain ⟨hi, hwp⟩ := hwp
            refine va_iald hx hb hK hP 4 0 rfl rfl hi dX9_meet_148 ?_
            refine lv_aload_n hx hb dX9_meet_149 rfl (lv_at hl 7 rfl) ?_
            refine va_get (D := G) (ci := 9) (v := .ref h4) (C := RX9) (T := TX9) (N := 58) hx hb hts xinX9 hown hK hP 0 rfl rfl 38 (by decide) (hts _ wo_585) (fun _ h9 => h9) rfl dX9_meet_150 ?_
            refine lv_iload hx hb dX9_meet_153 (lv_at hl 2 rfl) ?_
            obtain ⟨hi, hwp⟩ := hwp
            refine va_iald hx hb hK hP 4 0 rfl rfl hi dX9_meet_155 ?_
            refine lv_isub hx hb dX9_meet_156 ?_
            refine lv_imul hx hb dX9_meet_157 ?_
            refine lv_iadd hx hb dX9_meet_158 ?_
            refine lv_topi (fun v159 ev159 => ?_)
            replace hwp := hwp v159 ev159
            clear ev159
            refine lv_istore (lv' := [(10, .int v159), (9, .int v94), (8, .int v84), (7, .int v6), (6, .int v29), (5, .int v21), (4, .int v13), (3, .int v6), (0, .ref h0), (1, .int p0), (2, .int p1)]) hx hb dX9_meet_159 hl (by decide) rfl (fun ls hl => ?_)
            refine lv_aload_n hx hb dX9_meet_161 rfl (lv_at hl 8 rfl) ?_
            refine lv_iload hx hb dX9_meet_162 (lv_at hl 3 rfl) ?_
            refine lv_iload hx hb dX9_meet_164 (lv_at hl 2 rfl) ?_
            refine lv_iload hx hb dX9_meet_166 (lv_at hl 1 rfl) ?_
            refine xci (wr := [(h1, aI cI 80 f18), (h2, aI cI 80 f19)]) (va_runV (As := [.int v6, .int v84, .int v94]) (rest := []) ⟨hx, hb, hml, hown, hts⟩ (zX9_side l G cI cJ cZ h0 h3 h4 h1 h2 k0 k1 k2 k3 k4 k5 k6 k7 k8 k9 k10 k11 k12 k13 k14 k15 k16 k17 k18 k19 k20 k21 k22 k23 k24 k25 k26 k27 k28 k29 k30 k31 k32 k33 k34 k35 s.heap.size i0 i1 i2 i3 i4 i5 i6 i7 i8 i9 i10 i11 i12 i13 i14 i15 i16 i17 f20 f21 v6 v84 v94 _ hwp) (cwV 3 hts (xgoodV wo_683 wo_684 wo_685 wo_686 wo_454) rfl rfl rfl (by decide +kernel) ⟨Nat.le_of_ble_eq_true rfl, Nat.le_of_ble_eq_true rfl⟩) (xPreV (q := (RX9, TX9, 58)) (q0 := 0) hK hN hP hD [0, 3, 4] (by decide) rfl rfl rfl) rfl rfl hl.1 rfl (lv_room (Nat.le_of_ble_eq_true rfl)) dX9_meet_168 ⟨Nat.le_of_ble_eq_true rfl, Nat.le_of_ble_eq_true rfl⟩) hP hD hS hA [0, 3, 4] [1, 2] rfl rfl (by decide) (by decide) (fun r168 u168 H locs hwp hP hD hS => ?_)
            replace hP : va_P G vwCl [(h1, aI cI 80 f18), (h2, aI cI 80 f19), (h0, .inr (9, [.int i0, .int i1, .ref h1, .ref h2, .ref k0, .ref k1, .ref k2, .int i2, .ref k3, .int i3, .ref k4, .ref k5, .ref k6, .int i4, .ref k7, .ref k8, .int i5, .ref k9, .ref k10, .ref k11, .int i6, .ref k12, .int i7, .ref k13, .ref k14, .int i8, .int i9, .int i10, .ref k15, .int i11, .ref k16, .ref k17, .ref k18, .ref k19, .ref k20, .ref k21, .ref k22, .ref h3, .ref h4, .ref k23, .ref k24, .ref k25, .ref k26, .ref k27, .ref k28, .int i12, .int i13, .int i14, .int i15, .int i16, .ref k29, .ref k30, .ref k31, .ref k32, .ref k33, .ref k34, .int i17, .ref k35])), (h3, aI cI 20 f20), (h4, aI cI 20 f21)] H := hP
            replace hD : va_D A [(h1, aI cI 80 f18), (h2, aI cI 80 f19), (h0, .inr (9, [.int i0, .int i1, .ref h1, .ref h2, .ref k0, .ref k1, .ref k2, .int i2, .ref k3, .int i3, .ref k4, .ref k5, .ref k6, .int i4, .ref k7, .ref k8, .int i5, .ref k9, .ref k10, .ref k11, .int i6, .ref k12, .int i7, .ref k13, .ref k14, .int i8, .int i9, .int i10, .ref k15, .int i11, .ref k16, .ref k17, .ref k18, .ref k19, .ref k20, .ref k21, .ref k22, .ref h3, .ref h4, .ref k23, .ref k24, .ref k25, .ref k26, .ref k27, .ref k28, .int i12, .int i13, .int i14, .int i15, .int i16, .ref k29, .ref k30, .ref k31, .ref k32, .ref k33, .ref k34, .int i17, .ref k35])), (h3, aI cI 20 f20), (h4, aI cI 20 f21)] := hD
            refine lv_if_ne (tgt := 183) hx hb dX9_meet_171 (by decide) (fun c171 => ?_) (fun c171 => ?_)
            · replace hwp := hwp.1 c171
              refine lv_iconst (v := 0) hx hb dX9_meet_183 (by decide) ?_
              have hP9 : va_P G vwCl [(h0, .inr (9, [.int i0, .int i1, .ref h1, .ref h2, .ref k0, .ref k1, .ref k2, .int i2, .ref k3, .int i3, .ref k4, .ref k5, .ref k6, .int i4, .ref k7, .ref k8, .int i5, .ref k9, .ref k10, .ref k11, .int i6, .ref k12, .int i7, .ref k13, .ref k14, .int i8, .int i9, .int i10, .ref k15, .int i11, .ref k16, .ref k17, .ref k18, .ref k19, .ref k20, .ref k21, .ref k22, .ref h3, .ref h4, .ref k23, .ref k24, .ref k25, .ref k26, .ref k27, .ref k28, .int i12, .int i13, .int i14, .int i15, .int i16, .ref k29, .ref k30, .ref k31, .ref k32, .ref k33, .ref k34, .int i17, .ref k35])), (h1, aI cI 80 f18), (h2, aI cI 80 f19), (h3, aI cI 20 f20), (h4, aI cI 20 f21)] H := hP.sub [2, 0, 1, 3, 4] rfl
              have hD9 : va_D A [(h0, .inr (9, [.int i0, .int i1, .ref h1, .ref h2, .ref k0, .ref k1, .ref k2, .int i2, .ref k3, .int i3, .ref k4, .ref k5, .ref k6, .int i4, .ref k7, .ref k8, .int i5, .ref k9, .ref k10, .ref k11, .int i6, .ref k12, .int i7, .ref k13, .ref k14, .int i8, .int i9, .int i10, .ref k15, .int i11, .ref k16, .ref k17, .ref k18, .ref k19, .ref k20, .ref k21, .ref k22, .ref h3, .ref h4, .ref k23, .ref k24, .ref k25, .ref k26, .ref k27, .ref k28, .int i12, .int i13, .int i14, .int i15, .int i16, .ref k29, .ref k30, .ref k31, .ref k32, .ref k33, .ref k34, .int i17, .ref k35])), (h1, aI cI 80 f18), (h2, aI cI 80 f19), (h3, aI cI 20 f20), (h4, aI cI 20 f21)] := hD.sub [2, 0, 1, 3, 4] (by decide) rfl
              rw [← hQQ]
              exact W.zret (v := 0) hx hb hr rfl (fun t ht hW => ⟨⟨_, (), rfl, hwp, by rw [ht]; exact hP9, hD9⟩, hS.F ht⟩) hS.2.2 dX9_meet_184
            · replace hwp := hwp.2 c171
              refine lv_iload hx hb dX9_meet_174 (lv_at hl 0 rfl) ?_
              refine lv_if_le (tgt := 183) hx hb dX9_meet_176 (by decide) (fun c176 => ?_) (fun c176 => ?_)
              · replace hwp := hwp.1 c176
                refine lv_iconst (v := 0) hx hb dX9_meet_183 (by decide) ?_
                have hP9 : va_P G vwCl [(h0, .inr (9, [.int i0, .int i1, .ref h1, .ref h2, .ref k0, .ref k1, .ref k2, .int i2, .ref k3, .int i3, .ref k4, .ref k5, .ref k6, .int i4, .ref k7, .ref k8, .int i5, .ref k9, .ref k10, .ref k11, .int i6, .ref k12, .int i7, .ref k13, .ref k14, .int i8, .int i9, .int i10, .ref k15, .int i11, .ref k16, .ref k17, .ref k18, .ref k19, .ref k20, .ref k21, .ref k22, .ref h3, .ref h4, .ref k23, .ref k24, .ref k25, .ref k26, .ref k27, .ref k28, .int i12, .int i13, .int i14, .int i15, .int i16, .ref k29, .ref k30, .ref k31, .ref k32, .ref k33, .ref k34, .int i17, .ref k35])), (h1, aI cI 80 f18), (h2, aI cI 80 f19), (h3, aI cI 20 f20), (h4, aI cI 20 f21)] H := hP.sub [2, 0, 1, 3, 4] rfl
                have hD9 : va_D A [(h0, .inr (9, [.int i0, .int i1, .ref h1, .ref h2, .ref k0, .ref k1, .ref k2, .int i2, .ref k3, .int i3, .ref k4, .ref k5, .ref k6, .int i4, .ref k7, .ref k8, .int i5, .ref k9, .ref k10, .ref k11, .int i6, .ref k12, .int i7, .ref k13, .ref k14, .int i8, .int i9, .int i10, .ref k15, .int i11, .ref k16, .ref k17, .ref k18, .ref k19, .ref k20, .ref k21, .ref k22, .ref h3, .ref h4, .ref k23, .ref k24, .ref k25, .ref k26, .ref k27, .ref k28, .int i12, .int i13, .int i14, .int i15, .int i16, .ref k29, .ref k30, .ref k31, .ref k32, .ref k33, .ref k34, .int i17, .ref k35])), (h1, aI cI 80 f18), (h2, aI cI 80 f19), (h3, aI cI 20 f20), (h4, aI cI 20 f21)] := hD.sub [2, 0, 1, 3, 4] (by decide) rfl
                rw [← hQQ]
                exact W.zret (v := 0) hx hb hr rfl (fun t ht hW => ⟨⟨_, (), rfl, hwp, by rw [ht]; exact hP9, hD9⟩, hS.F ht⟩) hS.2.2 dX9_meet_184
              · replace hwp := hwp.2 c176
                refine lv_iconst (v := 1) hx hb dX9_meet_179 (by decide) ?_
                refine lv_goto (tgt := 184) hx hb dX9_meet_180 (by decide) ?_
                have hP9 : va_P G vwCl [(h0, .inr (9, [.int i0, .int i1, .ref h1, .ref h2, .ref k0, .ref k1, .ref k2, .int i2, .ref k3, .int i3, .ref k4, .ref k5, .ref k6, .int i4, .ref k7, .ref k8, .int i5, .ref k9, .ref k10, .ref k11, .int i6, .ref k12, .int i7, .ref k13, .ref k14, .int i8, .int i9, .int i10, .ref k15, .int i11, .ref k16, .ref k17, .ref k18, .ref k19, .ref k20, .ref k21, .ref k22, .ref h3, .ref h4, .ref k23, .ref k24, .ref k25, .ref k26, .ref k27, .ref k28, .int i12, .int i13, .int i14, .int i15, .int i16, .ref k29, .ref k30, .ref k31, .ref k32, .ref k33, .ref k34, .int i17, .ref k35])), (h1, aI cI 80 f18), (h2, aI cI 80 f19), (h3, aI cI 20 f20), (h4, aI cI 20 f21)] H := hP.sub [2, 0, 1, 3, 4] rfl
                have hD9 : va_D A [(h0, .inr (9, [.int i0, .int i1, .ref h1, .ref h2, .ref k0, .ref k1, .ref k2, .int i2, .ref k3, .int i3, .ref k4, .ref k5, .ref k6, .int i4, .ref k7, .ref k8, .int i5, .ref k9, .ref k10, .ref k11, .int i6, .ref k12, .int i7, .ref k13, .ref k14, .int i8, .int i9, .int i10, .ref k15, .int i11, .ref k16, .ref k17, .ref k18, .ref k19, .ref k20, .ref k21, .ref k22, .ref h3, .ref h4, .ref k23, .ref k24, .ref k25, .ref k26, .ref k27, .ref k28, .int i12, .int i13, .int i14, .int i15, .int i16, .ref k29, .ref k30, .ref k31, .ref k32, .ref k33, .ref k34, .int i17, .ref k35])), (h1, aI cI 80 f18), (h2, aI cI 80 f19), (h3, aI cI 20 f20), (h4, aI cI 20 f21)] := hD.sub [2, 0, 1, 3, 4] (by decide) rfl
                rw [← hQQ]
                exact W.zret (v := 1) hx hb hr rfl (fun t ht hW => ⟨⟨_, (), rfl, hwp, by rw [ht]; exact hP9, hD9⟩, hS.F ht⟩) hS.2.2 dX9_meet_184
          · replace hwp := hwp.2 c60
            refine lv_iload_n hx hb dX9_meet_63 rfl (lv_at hl 3 rfl) ?_
            refine lv_iload hx hb dX9_meet_64 (lv_at hl 0 rfl) ?_
            refine lv_icmp_ne (tgt := 73) hx hb dX9_meet_66 (by decide) (fun c66 => ?_) (fun c66 => ?_)
            · replace hwp := hwp.1 c66
              refine lv_iload hx hb dX9_meet_73 (lv_at hl 2 rfl) ?_
              refine lv_istore (lv' := [(7, .int v13), (6, .int v29), (5, .int v21), (4, .int v13), (3, .int v6), (0, .ref h0), (1, .int p0), (2, .int p1)]) hx hb dX9_meet_75 hl (by decide) rfl (fun ls hl => ?_)
              refine lv_iload_n hx hb dX9_meet_77 rfl (lv_at hl 4 rfl) ?_
              refine lv_iload hx hb dX9_meet_78 (lv_at hl 3 rfl) ?_
              refine lv_iadd hx hb dX9_meet_80 ?_
              refine lv_iload hx hb dX9_meet_81 (lv_at hl 0 rfl) ?_
              refine lv_isub hx hb dX9_meet_83 ?_
              refine lv_topi (fun v84 ev84 => ?_)
              replace hwp := hwp v84 ev84
              clear ev84
              refine lv_istore (lv' := [(8, .int v84), (7, .int v13), (6, .int v29), (5, .int v21), (4, .int v13), (3, .int v6), (0, .ref h0), (1, .int p0), (2, .int p1)]) hx hb dX9_meet_84 hl (by decide) rfl (fun ls hl => ?_)
              refine lv_iload hx hb dX9_meet_86 (lv_at hl 3 rfl) ?_
              refine lv_iload hx hb dX9_meet_88 (lv_at hl 2 rfl) ?_
              refine lv_iadd hx hb dX9_meet_90 ?_
              refine lv_iload hx hb dX9_meet_91 (lv_at hl 1 rfl) ?_
              refine lv_isub hx hb dX9_meet_93 ?_
              refine lv_topi (fun v94 ev94 => ?_)
              replace hwp := hwp v94 ev94
              clear ev94
              refine lv_istore (lv' := [(9, .int v94), (8, .int v84), (7, .int v13), (6, .int v29), (5, .int v21), (4, .int v13), (3, .int v6), (0, .ref h0), (1, .int p0), (2, .int p1)]) hx hb dX9_meet_94 hl (by decide) rfl (fun ls hl => ?_)
              refine lv_aload_n hx hb dX9_meet_96 rfl (lv_at hl 7 rfl) ?_
              refine va_get (D := G) (ci := 9) (v := .ref h3) (C := RX9) (T := TX9) (N := 58) hx hb hts xinX9 hown hK hP 0 rfl rfl 37 (by decide) (hts _ wo_584) (fun _ h9 => h9) rfl dX9_meet_97 ?_
              refine lv_iload hx hb dX9_meet_100 (lv_at hl 1 rfl) ?_
              obtain ⟨hi, hwp⟩ := hwp
              refine va_iald hx hb hK hP 3 0 rfl rfl hi dX9_meet_102 ?_
              refine lv_aload_n hx hb dX9_meet_103 rfl (lv_at hl 7 rfl) ?_
              refine va_get (D := G) (ci := 9) (v := .ref h3) (C := RX9) (T := TX9) (N := 58) hx hb hts xinX9 hown hK hP 0 rfl rfl 37 (by decide) (hts _ wo_584) (fun _ h9 => h9) rfl dX9_meet_104 ?_
              refine lv_iload hx hb dX9_meet_107 (lv_at hl 2 rfl) ?_
              obtain ⟨hi, hwp⟩ := hwp
              refine va_iald hx hb hK hP 3 0 rfl rfl hi dX9_meet_109 ?_
              refine lv_isub hx hb dX9_meet_110 ?_
              refine lv_aload_n hx hb dX9_meet_111 rfl (lv_at hl 7 rfl) ?_
              refine va_get (D := G) (ci := 9) (v := .ref h3) (C := RX9) (T := TX9) (N := 58) hx hb hts xinX9 hown hK hP 0 rfl rfl 37 (by decide) (hts _ wo_584) (fun _ h9 => h9) rfl dX9_meet_112 ?_
              refine lv_iload hx hb dX9_meet_115 (lv_at hl 0 rfl) ?_
              obtain ⟨hi, hwp⟩ := hwp
              refine va_iald hx hb hK hP 3 0 rfl rfl hi dX9_meet_117 ?_
              refine lv_aload_n hx hb dX9_meet_118 rfl (lv_at hl 7 rfl) ?_
              refine va_get (D := G) (ci := 9) (v := .ref h3) (C := RX9) (T := TX9) (N := 58) hx hb hts xinX9 hown hK hP 0 rfl rfl 37 (by decide) (hts _ wo_584) (fun _ h9 => h9) rfl dX9_meet_119 ?_
              refine lv_iload hx hb dX9_meet_122 (lv_at hl 2 rfl) ?_
              obtain ⟨hi, hwp⟩ := hwp
              refine va_iald hx hb hK hP 3 0 rfl rfl hi dX9_meet_124 ?_
              refine lv_isub hx hb dX9_meet_125 ?_
              refine lv_imul hx hb dX9_meet_126 ?_
              refine lv_aload_n hx hb dX9_meet_127 rfl (lv_at hl 7 rfl) ?_
              refine va_get (D := G) (ci := 9) (v := .ref h4) (C := RX9) (T := TX9) (N := 58) hx hb hts xinX9 hown hK hP 0 rfl rfl 38 (by decide) (hts _ wo_585) (fun _ h9 => h9) rfl dX9_meet_128 ?_
              refine lv_iload hx hb dX9_meet_131 (lv_at hl 1 rfl) ?_
              obtain ⟨hi, hwp⟩ := hwp
              refine va_iald hx hb hK hP 4 0 rfl rfl hi dX9_meet_133 ?_
              refine lv_aload_n hx hb dX9_meet_134 rfl (lv_at hl 7 rfl) ?_
              refine va_get (D := G) (ci := 9) (v := .ref h4) (C := RX9) (T := TX9) (N := 58) hx hb hts xinX9 hown hK hP 0 rfl rfl 38 (by decide) (hts _ wo_585) (fun _ h9 => h9) rfl dX9_meet_135 ?_
              refine lv_iload hx hb dX9_meet_138 (lv_at hl 2 rfl) ?_
              obtain ⟨hi, hwp⟩ := hwp
              refine va_iald hx hb hK hP 4 0 rfl rfl hi dX9_meet_140 ?_
              refine lv_isub hx hb dX9_meet_141 ?_
              refine lv_aload_n hx hb dX9_meet_142 rfl (lv_at hl 7 rfl) ?_
              refine va_get (D := G) (ci := 9) (v := .ref h4) (C := RX9) (T := TX9) (N := 58) hx hb hts xinX9 hown hK hP 0 rfl rfl 38 (by decide) (hts _ wo_585) (fun _ h9 => h9) rfl dX9_meet_143 ?_
              refine lv_iload hx hb dX9_meet_146 (lv_at hl 0 rfl) ?_
              obtain ⟨hi, hwp⟩ := hwp
              refine va_iald hx hb hK hP 4 0 rfl rfl hi dX9_meet_148 ?_
              refine lv_aload_n hx hb dX9_meet_149 rfl (lv_at hl 7 rfl) ?_
              refine va_get (D := G) (ci := 9) (v := .ref h4) (C := RX9) (T := TX9) (N := 58) hx hb hts xinX9 hown hK hP 0 rfl rfl 38 (by decide) (hts _ wo_585) (fun _ h9 => h9) rfl dX9_meet_150 ?_
              refine lv_iload hx hb dX9_meet_153 (lv_at hl 2 rfl) ?_
              obtain ⟨hi, hwp⟩ := hwp
              refine va_iald hx hb hK hP 4 0 rfl rfl hi dX9_meet_155 ?_
              refine lv_isub hx hb dX9_meet_156 ?_
              refine lv_imul hx hb dX9_meet_157 ?_
              refine lv_iadd hx hb dX9_meet_158 ?_
              refine lv_topi (fun v159 ev159 => ?_)
              replace hwp := hwp v159 ev159
              clear ev159
              refine lv_istore (lv' := [(10, .int v159), (9, .int v94), (8, .int v84), (7, .int v13), (6, .int v29), (5, .int v21), (4, .int v13), (3, .int v6), (0, .ref h0), (1, .int p0), (2, .int p1)]) hx hb dX9_meet_159 hl (by decide) rfl (fun ls hl => ?_)
              refine lv_aload_n hx hb dX9_meet_161 rfl (lv_at hl 8 rfl) ?_
              refine lv_iload hx hb dX9_meet_162 (lv_at hl 3 rfl) ?_
              refine lv_iload hx hb dX9_meet_164 (lv_at hl 2 rfl) ?_
              refine lv_iload hx hb dX9_meet_166 (lv_at hl 1 rfl) ?_
              refine xci (wr := [(h1, aI cI 80 f18), (h2, aI cI 80 f19)]) (va_runV (As := [.int v13, .int v84, .int v94]) (rest := []) ⟨hx, hb, hml, hown, hts⟩ (zX9_side l G cI cJ cZ h0 h3 h4 h1 h2 k0 k1 k2 k3 k4 k5 k6 k7 k8 k9 k10 k11 k12 k13 k14 k15 k16 k17 k18 k19 k20 k21 k22 k23 k24 k25 k26 k27 k28 k29 k30 k31 k32 k33 k34 k35 s.heap.size i0 i1 i2 i3 i4 i5 i6 i7 i8 i9 i10 i11 i12 i13 i14 i15 i16 i17 f20 f21 v13 v84 v94 _ hwp) (cwV 3 hts (xgoodV wo_683 wo_684 wo_685 wo_686 wo_454) rfl rfl rfl (by decide +kernel) ⟨Nat.le_of_ble_eq_true rfl, Nat.le_of_ble_eq_true rfl⟩) (xPreV (q := (RX9, TX9, 58)) (q0 := 0) hK hN hP hD [0, 3, 4] (by decide) rfl rfl rfl) rfl rfl hl.1 rfl (lv_room (Nat.le_of_ble_eq_true rfl)) dX9_meet_168 ⟨Nat.le_of_ble_eq_true rfl, Nat.le_of_ble_eq_true rfl⟩) hP hD hS hA [0, 3, 4] [1, 2] rfl rfl (by decide) (by decide) (fun r168 u168 H locs hwp hP hD hS => ?_)
              replace hP : va_P G vwCl [(h1, aI cI 80 f18), (h2, aI cI 80 f19), (h0, .inr (9, [.int i0, .int i1, .ref h1, .ref h2, .ref k0, .ref k1, .ref k2, .int i2, .ref k3, .int i3, .ref k4, .ref k5, .ref k6, .int i4, .ref k7, .ref k8, .int i5, .ref k9, .ref k10, .ref k11, .int i6, .ref k12, .int i7, .ref k13, .ref k14, .int i8, .int i9, .int i10, .ref k15, .int i11, .ref k16, .ref k17, .ref k18, .ref k19, .ref k20, .ref k21, .ref k22, .ref h3, .ref h4, .ref k23, .ref k24, .ref k25, .ref k26, .ref k27, .ref k28, .int i12, .int i13, .int i14, .int i15, .int i16, .ref k29, .ref k30, .ref k31, .ref k32, .ref k33, .ref k34, .int i17, .ref k35])), (h3, aI cI 20 f20), (h4, aI cI 20 f21)] H := hP
              replace hD : va_D A [(h1, aI cI 80 f18), (h2, aI cI 80 f19), (h0, .inr (9, [.int i0, .int i1, .ref h1, .ref h2, .ref k0, .ref k1, .ref k2, .int i2, .ref k3, .int i3, .ref k4, .ref k5, .ref k6, .int i4, .ref k7, .ref k8, .int i5, .ref k9, .ref k10, .ref k11, .int i6, .ref k12, .int i7, .ref k13, .ref k14, .int i8, .int i9, .int i10, .ref k15, .int i11, .ref k16, .ref k17, .ref k18, .ref k19, .ref k20, .ref k21, .ref k22, .ref h3, .ref h4, .ref k23, .ref k24, .ref k25, .ref k26, .ref k27, .ref k28, .int i12, .int i13, .int i14, .int i15, .int i16, .ref k29, .ref k30, .ref k31, .ref k32, .ref k33, .ref k34, .int i17, .ref k35])), (h3, aI cI 20 f20), (h4, aI cI 20 f21)] := hD
              refine lv_if_ne (tgt := 183) hx hb dX9_meet_171 (by decide) (fun c171 => ?_) (fun c171 => ?_)
              · replace hwp := hwp.1 c171
                refine lv_iconst (v := 0) hx hb dX9_meet_183 (by decide) ?_
                have hP9 : va_P G vwCl [(h0, .inr (9, [.int i0, .int i1, .ref h1, .ref h2, .ref k0, .ref k1, .ref k2, .int i2, .ref k3, .int i3, .ref k4, .ref k5, .ref k6, .int i4, .ref k7, .ref k8, .int i5, .ref k9, .ref k10, .ref k11, .int i6, .ref k12, .int i7, .ref k13, .ref k14, .int i8, .int i9, .int i10, .ref k15, .int i11, .ref k16, .ref k17, .ref k18, .ref k19, .ref k20, .ref k21, .ref k22, .ref h3, .ref h4, .ref k23, .ref k24, .ref k25, .ref k26, .ref k27, .ref k28, .int i12, .int i13, .int i14, .int i15, .int i16, .ref k29, .ref k30, .ref k31, .ref k32, .ref k33, .ref k34, .int i17, .ref k35])), (h1, aI cI 80 f18), (h2, aI cI 80 f19), (h3, aI cI 20 f20), (h4, aI cI 20 f21)] H := hP.sub [2, 0, 1, 3, 4] rfl
                have hD9 : va_D A [(h0, .inr (9, [.int i0, .int i1, .ref h1, .ref h2, .ref k0, .ref k1, .ref k2, .int i2, .ref k3, .int i3, .ref k4, .ref k5, .ref k6, .int i4, .ref k7, .ref k8, .int i5, .ref k9, .ref k10, .ref k11, .int i6, .ref k12, .int i7, .ref k13, .ref k14, .int i8, .int i9, .int i10, .ref k15, .int i11, .ref k16, .ref k17, .ref k18, .ref k19, .ref k20, .ref k21, .ref k22, .ref h3, .ref h4, .ref k23, .ref k24, .ref k25, .ref k26, .ref k27, .ref k28, .int i12, .int i13, .int i14, .int i15, .int i16, .ref k29, .ref k30, .ref k31, .ref k32, .ref k33, .ref k34, .int i17, .ref k35])), (h1, aI cI 80 f18), (h2, aI cI 80 f19), (h3, aI cI 20 f20), (h4, aI cI 20 f21)] := hD.sub [2, 0, 1, 3, 4] (by decide) rfl
                rw [← hQQ]
                exact W.zret (v := 0) hx hb hr rfl (fun t ht hW => ⟨⟨_, (), rfl, hwp, by rw [ht]; exact hP9, hD9⟩, hS.F ht⟩) hS.2.2 dX9_meet_184
              · replace hwp := hwp.2 c171
                refine lv_iload hx hb dX9_meet_174 (lv_at hl 0 rfl) ?_
                refine lv_if_le (tgt := 183) hx hb dX9_meet_176 (by decide) (fun c176 => ?_) (fun c176 => ?_)
                · replace hwp := hwp.1 c176
                  refine lv_iconst (v := 0) hx hb dX9_meet_183 (by decide) ?_
                  have hP9 : va_P G vwCl [(h0, .inr (9, [.int i0, .int i1, .ref h1, .ref h2, .ref k0, .ref k1, .ref k2, .int i2, .ref k3, .int i3, .ref k4, .ref k5, .ref k6, .int i4, .ref k7, .ref k8, .int i5, .ref k9, .ref k10, .ref k11, .int i6, .ref k12, .int i7, .ref k13, .ref k14, .int i8, .int i9, .int i10, .ref k15, .int i11, .ref k16, .ref k17, .ref k18, .ref k19, .ref k20, .ref k21, .ref k22, .ref h3, .ref h4, .ref k23, .ref k24, .ref k25, .ref k26, .ref k27, .ref k28, .int i12, .int i13, .int i14, .int i15, .int i16, .ref k29, .ref k30, .ref k31, .ref k32, .ref k33, .ref k34, .int i17, .ref k35])), (h1, aI cI 80 f18), (h2, aI cI 80 f19), (h3, aI cI 20 f20), (h4, aI cI 20 f21)] H := hP.sub [2, 0, 1, 3, 4] rfl
                  have hD9 : va_D A [(h0, .inr (9, [.int i0, .int i1, .ref h1, .ref h2, .ref k0, .ref k1, .ref k2, .int i2, .ref k3, .int i3, .ref k4, .ref k5, .ref k6, .int i4, .ref k7, .ref k8, .int i5, .ref k9, .ref k10, .ref k11, .int i6, .ref k12, .int i7, .ref k13, .ref k14, .int i8, .int i9, .int i10, .ref k15, .int i11, .ref k16, .ref k17, .ref k18, .ref k19, .ref k20, .ref k21, .ref k22, .ref h3, .ref h4, .ref k23, .ref k24, .ref k25, .ref k26, .ref k27, .ref k28, .int i12, .int i13, .int i14, .int i15, .int i16, .ref k29, .ref k30, .ref k31, .ref k32, .ref k33, .ref k34, .int i17, .ref k35])), (h1, aI cI 80 f18), (h2, aI cI 80 f19), (h3, aI cI 20 f20), (h4, aI cI 20 f21)] := hD.sub [2, 0, 1, 3, 4] (by decide) rfl
                  rw [← hQQ]
                  exact W.zret (v := 0) hx hb hr rfl (fun t ht hW => ⟨⟨_, (), rfl, hwp, by rw [ht]; exact hP9, hD9⟩, hS.F ht⟩) hS.2.2 dX9_meet_184
                · replace hwp := hwp.2 c176
                  refine lv_iconst (v := 1) hx hb dX9_meet_179 (by decide) ?_
                  refine lv_goto (tgt := 184) hx hb dX9_meet_180 (by decide) ?_
                  have hP9 : va_P G vwCl [(h0, .inr (9, [.int i0, .int i1, .ref h1, .ref h2, .ref k0, .ref k1, .ref k2, .int i2, .ref k3, .int i3, .ref k4, .ref k5, .ref k6, .int i4, .ref k7, .ref k8, .int i5, .ref k9, .ref k10, .ref k11, .int i6, .ref k12, .int i7, .ref k13, .ref k14, .int i8, .int i9, .int i10, .ref k15, .int i11, .ref k16, .ref k17, .ref k18, .ref k19, .ref k20, .ref k21, .ref k22, .ref h3, .ref h4, .ref k23, .ref k24, .ref k25, .ref k26, .ref k27, .ref k28, .int i12, .int i13, .int i14, .int i15, .int i16, .ref k29, .ref k30, .ref k31, .ref k32, .ref k33, .ref k34, .int i17, .ref k35])), (h1, aI cI 80 f18), (h2, aI cI 80 f19), (h3, aI cI 20 f20), (h4, aI cI 20 f21)] H := hP.sub [2, 0, 1, 3, 4] rfl
                  have hD9 : va_D A [(h0, .inr (9, [.int i0, .int i1, .ref h1, .ref h2, .ref k0, .ref k1, .ref k2, .int i2, .ref k3, .int i3, .ref k4, .ref k5, .ref k6, .int i4, .ref k7, .ref k8, .int i5, .ref k9, .ref k10, .ref k11, .int i6, .ref k12, .int i7, .ref k13, .ref k14, .int i8, .int i9, .int i10, .ref k15, .int i11, .ref k16, .ref k17, .ref k18, .ref k19, .ref k20, .ref k21, .ref k22, .ref h3, .ref h4, .ref k23, .ref k24, .ref k25, .ref k26, .ref k27, .ref k28, .int i12, .int i13, .int i14, .int i15, .int i16, .ref k29, .ref k30, .ref k31, .ref k32, .ref k33, .ref k34, .int i17, .ref k35])), (h1, aI cI 80 f18), (h2, aI cI 80 f19), (h3, aI cI 20 f20), (h4, aI cI 20 f21)] := hD.sub [2, 0, 1, 3, 4] (by decide) rfl
                  rw [← hQQ]
                  exact W.zret (v := 1) hx hb hr rfl (fun t ht hW => ⟨⟨_, (), rfl, hwp, by rw [ht]; exact hP9, hD9⟩, hS.F ht⟩) hS.2.2 dX9_meet_184
            · replace hwp := hwp.2 c66
              refine lv_iload_n hx hb dX9_meet_69 rfl (lv_at hl 3 rfl) ?_
              refine lv_goto (tgt := 75) hx hb dX9_meet_70 (by decide) ?_
              refine lv_istore (lv' := [(7, .int v6), (6, .int v29), (5, .int v21), (4, .int v13), (3, .int v6), (0, .ref h0), (1, .int p0), (2, .int p1)]) hx hb dX9_meet_75 hl (by decide) rfl (fun ls hl => ?_)
              refine lv_iload_n hx hb dX9_meet_77 rfl (lv_at hl 4 rfl) ?_
              refine lv_iload hx hb dX9_meet_78 (lv_at hl 3 rfl) ?_
              refine lv_iadd hx hb dX9_meet_80 ?_
              refine lv_iload hx hb dX9_meet_81 (lv_at hl 0 rfl) ?_
              refine lv_isub hx hb dX9_meet_83 ?_
              refine lv_topi (fun v84 ev84 => ?_)
              replace hwp := hwp v84 ev84
              clear ev84
              refine lv_istore (lv' := [(8, .int v84), (7, .int v6), (6, .int v29), (5, .int v21), (4, .int v13), (3, .int v6), (0, .ref h0), (1, .int p0), (2, .int p1)]) hx hb dX9_meet_84 hl (by decide) rfl (fun ls hl => ?_)
              refine lv_iload hx hb dX9_meet_86 (lv_at hl 3 rfl) ?_
              refine lv_iload hx hb dX9_meet_88 (lv_at hl 2 rfl) ?_
              refine lv_iadd hx hb dX9_meet_90 ?_
              refine lv_iload hx hb dX9_meet_91 (lv_at hl 1 rfl) ?_
              refine lv_isub hx hb dX9_meet_93 ?_
              refine lv_topi (fun v94 ev94 => ?_)
              replace hwp := hwp v94 ev94
              clear ev94
              refine lv_istore (lv' := [(9, .int v94), (8, .int v84), (7, .int v6), (6, .int v29), (5, .int v21), (4, .int v13), (3, .int v6), (0, .ref h0), (1, .int p0), (2, .int p1)]) hx hb dX9_meet_94 hl (by decide) rfl (fun ls hl => ?_)
              refine lv_aload_n hx hb dX9_meet_96 rfl (lv_at hl 7 rfl) ?_
              refine va_get (D := G) (ci := 9) (v := .ref h3) (C := RX9) (T := TX9) (N := 58) hx hb hts xinX9 hown hK hP 0 rfl rfl 37 (by decide) (hts _ wo_584) (fun _ h9 => h9) rfl dX9_meet_97 ?_
              refine lv_iload hx hb dX9_meet_100 (lv_at hl 1 rfl) ?_
              obtain ⟨hi, hwp⟩ := hwp
              refine va_iald hx hb hK hP 3 0 rfl rfl hi dX9_meet_102 ?_
              refine lv_aload_n hx hb dX9_meet_103 rfl (lv_at hl 7 rfl) ?_
              refine va_get (D := G) (ci := 9) (v := .ref h3) (C := RX9) (T := TX9) (N := 58) hx hb hts xinX9 hown hK hP 0 rfl rfl 37 (by decide) (hts _ wo_584) (fun _ h9 => h9) rfl dX9_meet_104 ?_
              refine lv_iload hx hb dX9_meet_107 (lv_at hl 2 rfl) ?_
              obtain ⟨hi, hwp⟩ := hwp
              refine va_iald hx hb hK hP 3 0 rfl rfl hi dX9_meet_109 ?_
              refine lv_isub hx hb dX9_meet_110 ?_
              refine lv_aload_n hx hb dX9_meet_111 rfl (lv_at hl 7 rfl) ?_
              refine va_get (D := G) (ci := 9) (v := .ref h3) (C := RX9) (T := TX9) (N := 58) hx hb hts xinX9 hown hK hP 0 rfl rfl 37 (by decide) (hts _ wo_584) (fun _ h9 => h9) rfl dX9_meet_112 ?_
              refine lv_iload hx hb dX9_meet_115 (lv_at hl 0 rfl) ?_
              obtain ⟨hi, hwp⟩ := hwp
              refine va_iald hx hb hK hP 3 0 rfl rfl hi dX9_meet_117 ?_
              refine lv_aload_n hx hb dX9_meet_118 rfl (lv_at hl 7 rfl) ?_
              refine va_get (D := G) (ci := 9) (v := .ref h3) (C := RX9) (T := TX9) (N := 58) hx hb hts xinX9 hown hK hP 0 rfl rfl 37 (by decide) (hts _ wo_584) (fun _ h9 => h9) rfl dX9_meet_119 ?_
              refine lv_iload hx hb dX9_meet_122 (lv_at hl 2 rfl) ?_
              obtain ⟨hi, hwp⟩ := hwp
              refine va_iald hx hb hK hP 3 0 rfl rfl hi dX9_meet_124 ?_
              refine lv_isub hx hb dX9_meet_125 ?_
              refine lv_imul hx hb dX9_meet_126 ?_
              refine lv_aload_n hx hb dX9_meet_127 rfl (lv_at hl 7 rfl) ?_
              refine va_get (D := G) (ci := 9) (v := .ref h4) (C := RX9) (T := TX9) (N := 58) hx hb hts xinX9 hown hK hP 0 rfl rfl 38 (by decide) (hts _ wo_585) (fun _ h9 => h9) rfl dX9_meet_128 ?_
              refine lv_iload hx hb dX9_meet_131 (lv_at hl 1 rfl) ?_
              obtain ⟨hi, hwp⟩ := hwp
              refine va_iald hx hb hK hP 4 0 rfl rfl hi dX9_meet_133 ?_
              refine lv_aload_n hx hb dX9_meet_134 rfl (lv_at hl 7 rfl) ?_
              refine va_get (D := G) (ci := 9) (v := .ref h4) (C := RX9) (T := TX9) (N := 58) hx hb hts xinX9 hown hK hP 0 rfl rfl 38 (by decide) (hts _ wo_585) (fun _ h9 => h9) rfl dX9_meet_135 ?_
              refine lv_iload hx hb dX9_meet_138 (lv_at hl 2 rfl) ?_
              obtain ⟨hi, hwp⟩ := hwp
              refine va_iald hx hb hK hP 4 0 rfl rfl hi dX9_meet_140 ?_
              refine lv_isub hx hb dX9_meet_141 ?_
              refine lv_aload_n hx hb dX9_meet_142 rfl (lv_at hl 7 rfl) ?_
              refine va_get (D := G) (ci := 9) (v := .ref h4) (C := RX9) (T := TX9) (N := 58) hx hb hts xinX9 hown hK hP 0 rfl rfl 38 (by decide) (hts _ wo_585) (fun _ h9 => h9) rfl dX9_meet_143 ?_
              refine lv_iload hx hb dX9_meet_146 (lv_at hl 0 rfl) ?_
              obtain ⟨hi, hwp⟩ := hwp
              refine va_iald hx hb hK hP 4 0 rfl rfl hi dX9_meet_148 ?_
              refine lv_aload_n hx hb dX9_meet_149 rfl (lv_at hl 7 rfl) ?_
              refine va_get (D := G) (ci := 9) (v := .ref h4) (C := RX9) (T := TX9) (N := 58) hx hb hts xinX9 hown hK hP 0 rfl rfl 38 (by decide) (hts _ wo_585) (fun _ h9 => h9) rfl dX9_meet_150 ?_
              refine lv_iload hx hb dX9_meet_153 (lv_at hl 2 rfl) ?_
              obtain ⟨hi, hwp⟩ := hwp
              refine va_iald hx hb hK hP 4 0 rfl rfl hi dX9_meet_155 ?_
              refine lv_isub hx hb dX9_meet_156 ?_
              refine lv_imul hx hb dX9_meet_157 ?_
              refine lv_iadd hx hb dX9_meet_158 ?_
              refine lv_topi (fun v159 ev159 => ?_)
              replace hwp := hwp v159 ev159
              clear ev159
              refine lv_istore (lv' := [(10, .int v159), (9, .int v94), (8, .int v84), (7, .int v6), (6, .int v29), (5, .int v21), (4, .int v13), (3, .int v6), (0, .ref h0), (1, .int p0), (2, .int p1)]) hx hb dX9_meet_159 hl (by decide) rfl (fun ls hl => ?_)
              refine lv_aload_n hx hb dX9_meet_161 rfl (lv_at hl 8 rfl) ?_
              refine lv_iload hx hb dX9_meet_162 (lv_at hl 3 rfl) ?_
              refine lv_iload hx hb dX9_meet_164 (lv_at hl 2 rfl) ?_
              refine lv_iload hx hb dX9_meet_166 (lv_at hl 1 rfl) ?_
              refine xci (wr := [(h1, aI cI 80 f18), (h2, aI cI 80 f19)]) (va_runV (As := [.int v6, .int v84, .int v94]) (rest := []) ⟨hx, hb, hml, hown, hts⟩ (zX9_side l G cI cJ cZ h0 h3 h4 h1 h2 k0 k1 k2 k3 k4 k5 k6 k7 k8 k9 k10 k11 k12 k13 k14 k15 k16 k17 k18 k19 k20 k21 k22 k23 k24 k25 k26 k27 k28 k29 k30 k31 k32 k33 k34 k35 s.heap.size i0 i1 i2 i3 i4 i5 i6 i7 i8 i9 i10 i11 i12 i13 i14 i15 i16 i17 f20 f21 v6 v84 v94 _ hwp) (cwV 3 hts (xgoodV wo_683 wo_684 wo_685 wo_686 wo_454) rfl rfl rfl (by decide +kernel) ⟨Nat.le_of_ble_eq_true rfl, Nat.le_of_ble_eq_true rfl⟩) (xPreV (q := (RX9, TX9, 58)) (q0 := 0) hK hN hP hD [0, 3, 4] (by decide) rfl rfl rfl) rfl rfl hl.1 rfl (lv_room (Nat.le_of_ble_eq_true rfl)) dX9_meet_168 ⟨Nat.le_of_ble_eq_true rfl, Nat.le_of_ble_eq_true rfl⟩) hP hD hS hA [0, 3, 4] [1, 2] rfl rfl (by decide) (by decide) (fun r168 u168 H locs hwp hP hD hS => ?_)
              replace hP : va_P G vwCl [(h1, aI cI 80 f18), (h2, aI cI 80 f19), (h0, .inr (9, [.int i0, .int i1, .ref h1, .ref h2, .ref k0, .ref k1, .ref k2, .int i2, .ref k3, .int i3, .ref k4, .ref k5, .ref k6, .int i4, .ref k7, .ref k8, .int i5, .ref k9, .ref k10, .ref k11, .int i6, .ref k12, .int i7, .ref k13, .ref k14, .int i8, .int i9, .int i10, .ref k15, .int i11, .ref k16, .ref k17, .ref k18, .ref k19, .ref k20, .ref k21, .ref k22, .ref h3, .ref h4, .ref k23, .ref k24, .ref k25, .ref k26, .ref k27, .ref k28, .int i12, .int i13, .int i14, .int i15, .int i16, .ref k29, .ref k30, .ref k31, .ref k32, .ref k33, .ref k34, .int i17, .ref k35])), (h3, aI cI 20 f20), (h4, aI cI 20 f21)] H := hP
              replace hD : va_D A [(h1, aI cI 80 f18), (h2, aI cI 80 f19), (h0, .inr (9, [.int i0, .int i1, .ref h1, .ref h2, .ref k0, .ref k1, .ref k2, .int i2, .ref k3, .int i3, .ref k4, .ref k5, .ref k6, .int i4, .ref k7, .ref k8, .int i5, .ref k9, .ref k10, .ref k11, .int i6, .ref k12, .int i7, .ref k13, .ref k14, .int i8, .int i9, .int i10, .ref k15, .int i11, .ref k16, .ref k17, .ref k18, .ref k19, .ref k20, .ref k21, .ref k22, .ref h3, .ref h4, .ref k23, .ref k24, .ref k25, .ref k26, .ref k27, .ref k28, .int i12, .int i13, .int i14, .int i15, .int i16, .ref k29, .ref k30, .ref k31, .ref k32, .ref k33, .ref k34, .int i17, .ref k35])), (h3, aI cI 20 f20), (h4, aI cI 20 f21)] := hD
              refine lv_if_ne (tgt := 183) hx hb dX9_meet_171 (by decide) (fun c171 => ?_) (fun c171 => ?_)
              · replace hwp := hwp.1 c171
                refine lv_iconst (v := 0) hx hb dX9_meet_183 (by decide) ?_
                have hP9 : va_P G vwCl [(h0, .inr (9, [.int i0, .int i1, .ref h1, .ref h2, .ref k0, .ref k1, .ref k2, .int i2, .ref k3, .int i3, .ref k4, .ref k5, .ref k6, .int i4, .ref k7, .ref k8, .int i5, .ref k9, .ref k10, .ref k11, .int i6, .ref k12, .int i7, .ref k13, .ref k14, .int i8, .int i9, .int i10, .ref k15, .int i11, .ref k16, .ref k17, .ref k18, .ref k19, .ref k20, .ref k21, .ref k22, .ref h3, .ref h4, .ref k23, .ref k24, .ref k25, .ref k26, .ref k27, .ref k28, .int i12, .int i13, .int i14, .int i15, .int i16, .ref k29, .ref k30, .ref k31, .ref k32, .ref k33, .ref k34, .int i17, .ref k35])), (h1, aI cI 80 f18), (h2, aI cI 80 f19), (h3, aI cI 20 f20), (h4, aI cI 20 f21)] H := hP.sub [2, 0, 1, 3, 4] rfl
                have hD9 : va_D A [(h0, .inr (9, [.int i0, .int i1, .ref h1, .ref h2, .ref k0, .ref k1, .ref k2, .int i2, .ref k3, .int i3, .ref k4, .ref k5, .ref k6, .int i4, .ref k7, .ref k8, .int i5, .ref k9, .ref k10, .ref k11, .int i6, .ref k12, .int i7, .ref k13, .ref k14, .int i8, .int i9, .int i10, .ref k15, .int i11, .ref k16, .ref k17, .ref k18, .ref k19, .ref k20, .ref k21, .ref k22, .ref h3, .ref h4, .ref k23, .ref k24, .ref k25, .ref k26, .ref k27, .ref k28, .int i12, .int i13, .int i14, .int i15, .int i16, .ref k29, .ref k30, .ref k31, .ref k32, .ref k33, .ref k34, .int i17, .ref k35])), (h1, aI cI 80 f18), (h2, aI cI 80 f19), (h3, aI cI 20 f20), (h4, aI cI 20 f21)] := hD.sub [2, 0, 1, 3, 4] (by decide) rfl
                rw [← hQQ]
                exact W.zret (v := 0) hx hb hr rfl (fun t ht hW => ⟨⟨_, (), rfl, hwp, by rw [ht]; exact hP9, hD9⟩, hS.F ht⟩) hS.2.2 dX9_meet_184
              · replace hwp := hwp.2 c171
                refine lv_iload hx hb dX9_meet_174 (lv_at hl 0 rfl) ?_
                refine lv_if_le (tgt := 183) hx hb dX9_meet_176 (by decide) (fun c176 => ?_) (fun c176 => ?_)
                · replace hwp := hwp.1 c176
                  refine lv_iconst (v := 0) hx hb dX9_meet_183 (by decide) ?_
                  have hP9 : va_P G vwCl [(h0, .inr (9, [.int i0, .int i1, .ref h1, .ref h2, .ref k0, .ref k1, .ref k2, .int i2, .ref k3, .int i3, .ref k4, .ref k5, .ref k6, .int i4, .ref k7, .ref k8, .int i5, .ref k9, .ref k10, .ref k11, .int i6, .ref k12, .int i7, .ref k13, .ref k14, .int i8, .int i9, .int i10, .ref k15, .int i11, .ref k16, .ref k17, .ref k18, .ref k19, .ref k20, .ref k21, .ref k22, .ref h3, .ref h4, .ref k23, .ref k24, .ref k25, .ref k26, .ref k27, .ref k28, .int i12, .int i13, .int i14, .int i15, .int i16, .ref k29, .ref k30, .ref k31, .ref k32, .ref k33, .ref k34, .int i17, .ref k35])), (h1, aI cI 80 f18), (h2, aI cI 80 f19), (h3, aI cI 20 f20), (h4, aI cI 20 f21)] H := hP.sub [2, 0, 1, 3, 4] rfl
                  have hD9 : va_D A [(h0, .inr (9, [.int i0, .int i1, .ref h1, .ref h2, .ref k0, .ref k1, .ref k2, .int i2, .ref k3, .int i3, .ref k4, .ref k5, .ref k6, .int i4, .ref k7, .ref k8, .int i5, .ref k9, .ref k10, .ref k11, .int i6, .ref k12, .int i7, .ref k13, .ref k14, .int i8, .int i9, .int i10, .ref k15, .int i11, .ref k16, .ref k17, .ref k18, .ref k19, .ref k20, .ref k21, .ref k22, .ref h3, .ref h4, .ref k23, .ref k24, .ref k25, .ref k26, .ref k27, .ref k28, .int i12, .int i13, .int i14, .int i15, .int i16, .ref k29, .ref k30, .ref k31, .ref k32, .ref k33, .ref k34, .int i17, .ref k35])), (h1, aI cI 80 f18), (h2, aI cI 80 f19), (h3, aI cI 20 f20), (h4, aI cI 20 f21)] := hD.sub [2, 0, 1, 3, 4] (by decide) rfl
                  rw [← hQQ]
                  exact W.zret (v := 0) hx hb hr rfl (fun t ht hW => ⟨⟨_, (), rfl, hwp, by rw [ht]; exact hP9, hD9⟩, hS.F ht⟩) hS.2.2 dX9_meet_184
                · replace hwp := hwp.2 c176
                  refine lv_iconst (v := 1) hx hb dX9_meet_179 (by decide) ?_
                  refine lv_goto (tgt := 184) hx hb dX9_meet_180 (by decide) ?_
                  have hP9 : va_P G vwCl [(h0, .inr (9, [.int i0, .int i1, .ref h1, .ref h2, .ref k0, .ref k1, .ref k2, .int i2, .ref k3, .int i3, .ref k4, .ref k5, .ref k6, .int i4, .ref k7, .ref k8, .int i5, .ref k9, .ref k10, .ref k11, .int i6, .ref k12, .int i7, .ref k13, .ref k14, .int i8, .int i9, .int i10, .ref k15, .int i11, .ref k16, .ref k17, .ref k18, .ref k19, .ref k20, .ref k21, .ref k22, .ref h3, .ref h4, .ref k23, .ref k24, .ref k25, .ref k26, .ref k27, .ref k28, .int i12, .int i13, .int i14, .int i15, .int i16, .ref k29, .ref k30, .ref k31, .ref k32, .ref k33, .ref k34, .int i17, .ref k35])), (h1, aI cI 80 f18), (h2, aI cI 80 f19), (h3, aI cI 20 f20), (h4, aI cI 20 f21)] H := hP.sub [2, 0, 1, 3, 4] rfl
                  have hD9 : va_D A [(h0, .inr (9, [.int i0, .int i1, .ref h1, .ref h2, .ref k0, .ref k1, .ref k2, .int i2, .ref k3, .int i3, .ref k4, .ref k5, .ref k6, .int i4, .ref k7, .ref k8, .int i5, .ref k9, .ref k10, .ref k11, .int i6, .ref k12, .int i7, .ref k13, .ref k14, .int i8, .int i9, .int i10, .ref k15, .int i11, .ref k16, .ref k17, .ref k18, .ref k19, .ref k20, .ref k21, .ref k22, .ref h3, .ref h4, .ref k23, .ref k24, .ref k25, .ref k26, .ref k27, .ref k28, .int i12, .int i13, .int i14, .int i15, .int i16, .ref k29, .ref k30, .ref k31, .ref k32, .ref k33, .ref k34, .int i17, .ref k35])), (h1, aI cI 80 f18), (h2, aI cI 80 f19), (h3, aI cI 20 f20), (h4, aI cI 20 f21)] := hD.sub [2, 0, 1, 3, 4] (by decide) rfl
                  rw [← hQQ]
                  exact W.zret (v := 1) hx hb hr rfl (fun t ht hW => ⟨⟨_, (), rfl, hwp, by rw [ht]; exact hP9, hD9⟩, hS.F ht⟩) hS.2.2 dX9_meet_184
